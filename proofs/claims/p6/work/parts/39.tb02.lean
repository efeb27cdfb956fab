/-! what the methods do (printed by wip/gen/allb.py) -/
/-! 146 GoodbyeQuay$State.loadFrom([II)V -/
set_option maxRecDepth 4000 in
theorem b_146p (p2 : Int32) (s : u_H) : u_c 146 [.inr (.inr 30), .inr (.inr 36), .inl p2] s =
  if p2 < 0 then
    some (none, s)
  else
    if (Int32.ofNat 984) < (p2 + (Int32.ofInt 24)) then
      some (none, s)
    else
      if u_cpk (Int32.ofInt 7) (Int32.ofInt 0) p2 984 7 = true then
        u g_t146 28 ((u_l1 (u_l1 u_z1 2 p2) 3 p2), u_z2, [(1, 36), (0, 30)]) [] ((u_cp s.1 29 0 34 (p2.toNatClampNeg) 7), s.2)
      else
        none := (u_cE (t := g_t146) rfl _ _).trans ((u_E (5, 17, 5, 5) [28, 43, 57, 71] 120 g_t146 0 _ _ _).trans rfl)
set_option maxRecDepth 4000 in
theorem b_146_28p (li : Nat → Int32) (ll : Nat → Int64) (s : u_H) : u g_t146 28 (li, ll, [(1, 36), (0, 30)]) [] s =
  if u_cpk (Int32.ofInt 7) (Int32.ofInt 0) ((li 3) + (Int32.ofInt 7)) 984 7 = true then
    u g_t146 43 ((u_l1 li 3 ((li 3) + (Int32.ofInt 7))), ll, [(1, 36), (0, 30)]) [] ((u_cp s.1 30 0 34 (((li 3) + (Int32.ofInt 7)).toNatClampNeg) 7), s.2)
  else
    none := (u_E (5, 17, 5, 5) [28, 43, 57, 71] 120 g_t146 28 _ _ _).trans rfl
set_option maxRecDepth 4000 in
theorem b_146_43p (li : Nat → Int32) (ll : Nat → Int64) (s : u_H) : u g_t146 43 (li, ll, [(1, 36), (0, 30)]) [] s =
  if u_cpk (Int32.ofInt 2) (Int32.ofInt 0) ((li 3) + (Int32.ofInt 7)) 984 2 = true then
    u g_t146 57 ((u_l1 li 3 ((li 3) + (Int32.ofInt 7))), ll, [(1, 36), (0, 30)]) [] ((u_cp s.1 31 0 34 (((li 3) + (Int32.ofInt 7)).toNatClampNeg) 2), s.2)
  else
    none := (u_E (5, 17, 5, 5) [28, 43, 57, 71] 120 g_t146 43 _ _ _).trans rfl
set_option maxRecDepth 4000 in
theorem b_146_57p (li : Nat → Int32) (ll : Nat → Int64) (s : u_H) : u g_t146 57 (li, ll, [(1, 36), (0, 30)]) [] s =
  if u_cpk (Int32.ofInt 2) (Int32.ofInt 0) ((li 3) + (Int32.ofInt 2)) 984 2 = true then
    u g_t146 71 ((u_l1 li 3 ((li 3) + (Int32.ofInt 2))), ll, [(1, 36), (0, 30)]) [] ((u_cp s.1 32 0 34 (((li 3) + (Int32.ofInt 2)).toNatClampNeg) 2), s.2)
  else
    none := (u_E (5, 17, 5, 5) [28, 43, 57, 71] 120 g_t146 57 _ _ _).trans rfl
set_option maxRecDepth 4000 in
theorem b_146_71p (li : Nat → Int32) (ll : Nat → Int64) (s : u_H) : u g_t146 71 (li, ll, [(1, 36), (0, 30)]) [] s =
  if u_in ((li 3) + (Int32.ofInt 2)) 984 = true then
    if u_in (((li 3) + (Int32.ofInt 2)) + (Int32.ofInt 1)) 984 = true then
      if u_in (((li 3) + (Int32.ofInt 2)) + (Int32.ofInt 2)) 984 = true then
        if u_in (((li 3) + (Int32.ofInt 2)) + (Int32.ofInt 3)) 984 = true then
          if u_in (((li 3) + (Int32.ofInt 2)) + (Int32.ofInt 4)) 984 = true then
            if u_in (((li 3) + (Int32.ofInt 2)) + (Int32.ofInt 5)) 984 = true then
              some (none, ((y_u (y_u (y_u (y_u (y_u (y_u s.1 28 1 (s.1 34 (((li 3) + (Int32.ofInt 2)).toNatClampNeg))) 28 3 (s.1 34 ((((li 3) + (Int32.ofInt 2)) + (Int32.ofInt 1)).toNatClampNeg))) 28 6 (s.1 34 ((((li 3) + (Int32.ofInt 2)) + (Int32.ofInt 2)).toNatClampNeg))) 28 7 (s.1 34 ((((li 3) + (Int32.ofInt 2)) + (Int32.ofInt 3)).toNatClampNeg))) 28 8 (s.1 34 ((((li 3) + (Int32.ofInt 2)) + (Int32.ofInt 4)).toNatClampNeg))) 28 9 (s.1 34 ((((li 3) + (Int32.ofInt 2)) + (Int32.ofInt 5)).toNatClampNeg))), s.2))
            else
              none
          else
            none
        else
          none
      else
        none
    else
      none
  else
    none := (u_E (5, 17, 5, 5) [28, 43, 57, 71] 120 g_t146 71 _ _ _).trans rfl
set_option maxRecDepth 4000 in
theorem b_146x (p2 : Int32) (s : u_H) : u_c 146 [.inr (.inr 30), .inr (.inr 37), .inl p2] s =
  if p2 < 0 then
    some (none, s)
  else
    if (Int32.ofNat 72) < (p2 + (Int32.ofInt 24)) then
      some (none, s)
    else
      if u_cpk (Int32.ofInt 7) (Int32.ofInt 0) p2 72 7 = true then
        u g_t146 28 ((u_l1 (u_l1 u_z1 2 p2) 3 p2), u_z2, [(1, 37), (0, 30)]) [] ((u_cp s.1 29 0 35 (p2.toNatClampNeg) 7), s.2)
      else
        none := (u_cE (t := g_t146) rfl _ _).trans ((u_E (5, 17, 5, 5) [28, 43, 57, 71] 120 g_t146 0 _ _ _).trans rfl)
set_option maxRecDepth 4000 in
theorem b_146_28x (li : Nat → Int32) (ll : Nat → Int64) (s : u_H) : u g_t146 28 (li, ll, [(1, 37), (0, 30)]) [] s =
  if u_cpk (Int32.ofInt 7) (Int32.ofInt 0) ((li 3) + (Int32.ofInt 7)) 72 7 = true then
    u g_t146 43 ((u_l1 li 3 ((li 3) + (Int32.ofInt 7))), ll, [(1, 37), (0, 30)]) [] ((u_cp s.1 30 0 35 (((li 3) + (Int32.ofInt 7)).toNatClampNeg) 7), s.2)
  else
    none := (u_E (5, 17, 5, 5) [28, 43, 57, 71] 120 g_t146 28 _ _ _).trans rfl
set_option maxRecDepth 4000 in
theorem b_146_43x (li : Nat → Int32) (ll : Nat → Int64) (s : u_H) : u g_t146 43 (li, ll, [(1, 37), (0, 30)]) [] s =
  if u_cpk (Int32.ofInt 2) (Int32.ofInt 0) ((li 3) + (Int32.ofInt 7)) 72 2 = true then
    u g_t146 57 ((u_l1 li 3 ((li 3) + (Int32.ofInt 7))), ll, [(1, 37), (0, 30)]) [] ((u_cp s.1 31 0 35 (((li 3) + (Int32.ofInt 7)).toNatClampNeg) 2), s.2)
  else
    none := (u_E (5, 17, 5, 5) [28, 43, 57, 71] 120 g_t146 43 _ _ _).trans rfl
set_option maxRecDepth 4000 in
theorem b_146_57x (li : Nat → Int32) (ll : Nat → Int64) (s : u_H) : u g_t146 57 (li, ll, [(1, 37), (0, 30)]) [] s =
  if u_cpk (Int32.ofInt 2) (Int32.ofInt 0) ((li 3) + (Int32.ofInt 2)) 72 2 = true then
    u g_t146 71 ((u_l1 li 3 ((li 3) + (Int32.ofInt 2))), ll, [(1, 37), (0, 30)]) [] ((u_cp s.1 32 0 35 (((li 3) + (Int32.ofInt 2)).toNatClampNeg) 2), s.2)
  else
    none := (u_E (5, 17, 5, 5) [28, 43, 57, 71] 120 g_t146 57 _ _ _).trans rfl
set_option maxRecDepth 4000 in
theorem b_146_71x (li : Nat → Int32) (ll : Nat → Int64) (s : u_H) : u g_t146 71 (li, ll, [(1, 37), (0, 30)]) [] s =
  if u_in ((li 3) + (Int32.ofInt 2)) 72 = true then
    if u_in (((li 3) + (Int32.ofInt 2)) + (Int32.ofInt 1)) 72 = true then
      if u_in (((li 3) + (Int32.ofInt 2)) + (Int32.ofInt 2)) 72 = true then
        if u_in (((li 3) + (Int32.ofInt 2)) + (Int32.ofInt 3)) 72 = true then
          if u_in (((li 3) + (Int32.ofInt 2)) + (Int32.ofInt 4)) 72 = true then
            if u_in (((li 3) + (Int32.ofInt 2)) + (Int32.ofInt 5)) 72 = true then
              some (none, ((y_u (y_u (y_u (y_u (y_u (y_u s.1 28 1 (s.1 35 (((li 3) + (Int32.ofInt 2)).toNatClampNeg))) 28 3 (s.1 35 ((((li 3) + (Int32.ofInt 2)) + (Int32.ofInt 1)).toNatClampNeg))) 28 6 (s.1 35 ((((li 3) + (Int32.ofInt 2)) + (Int32.ofInt 2)).toNatClampNeg))) 28 7 (s.1 35 ((((li 3) + (Int32.ofInt 2)) + (Int32.ofInt 3)).toNatClampNeg))) 28 8 (s.1 35 ((((li 3) + (Int32.ofInt 2)) + (Int32.ofInt 4)).toNatClampNeg))) 28 9 (s.1 35 ((((li 3) + (Int32.ofInt 2)) + (Int32.ofInt 5)).toNatClampNeg))), s.2))
            else
              none
          else
            none
        else
          none
      else
        none
    else
      none
  else
    none := (u_E (5, 17, 5, 5) [28, 43, 57, 71] 120 g_t146 71 _ _ _).trans rfl
/-! 147 GoodbyeQuay$State.placeOf(I)I -/
set_option maxRecDepth 4000 in
theorem b_147 (p1 : Int32) (s : u_H) : u_c 147 [.inr (.inr 30), .inl p1] s =
  u g_t147 2 ((u_l1 (u_l1 u_z1 1 p1) 2 (Int32.ofInt 0)), u_z2, [(0, 30)]) [] s := (u_cE (t := g_t147) rfl _ _).trans ((u_E (5, 17, 5, 5) [2] 120 g_t147 0 _ _ _).trans rfl)
set_option maxRecDepth 4000 in
theorem b_147_2 (li : Nat → Int32) (ll : Nat → Int64) (s : u_H) : u g_t147 2 (li, ll, [(0, 30)]) [] s =
  if (li 2) < (s.1 28 1) then
    if u_in (li 2) 7 = true then
      if (s.1 29 ((li 2).toNatClampNeg)) = (li 1) then
        some (some (.inl (li 2)), s)
      else
        u g_t147 2 ((u_l1 li 2 ((li 2) + (Int32.ofInt 1))), ll, [(0, 30)]) [] s
    else
      none
  else
    some (some (.inl (u_k (-1))), s) := (u_E (5, 17, 5, 5) [2] 120 g_t147 2 _ _ _).trans rfl
/-! 148 GoodbyeQuay$State.sailsOf(LGoodbyeQuay$Told;I)I -/
set_option maxRecDepth 4000 in
theorem b_148 {W : Nat} (hW : W = 5 ∨ W = 17) (p2 : Int32) (s : u_H) : u_c 148 [.inr (.inr 30), .inr (.inr W), .inl p2] s =
  if u_in p2 5 = true then
    u_bi (u_c 142 [.inr (.inr 30), .inl p2] s) fun x2 s1 =>
    if x2 = 0 then
      some (some (.inl ((s.1 W (p2.toNatClampNeg)) + (Int32.ofInt 0))), s1)
    else
      if u_in p2 5 = true then
        some (some (.inl ((s.1 W (p2.toNatClampNeg)) + (s1.1 (W + 1) (p2.toNatClampNeg)))), s1)
      else
        none
  else
    none := by
  rcases hW with rfl | rfl
  · exact (u_cE (t := g_t148) rfl _ _).trans ((u_E (5, 17, 5, 5) [] 120 g_t148 0 _ _ _).trans rfl)
  · exact (u_cE (t := g_t148) rfl _ _).trans ((u_E (17, 5, 17, 17) [] 120 g_t148 0 _ _ _).trans rfl)
/-! 149 GoodbyeQuay$State.saveTo([II)V -/
set_option maxRecDepth 4000 in
theorem b_149p (p2 : Int32) (s : u_H) : u_c 149 [.inr (.inr 30), .inr (.inr 36), .inl p2] s =
  if p2 < 0 then
    some (none, s)
  else
    if (Int32.ofNat 984) < (p2 + (Int32.ofInt 24)) then
      some (none, s)
    else
      if u_cpk (Int32.ofInt 7) p2 (Int32.ofInt 0) 7 984 = true then
        u g_t149 28 ((u_l1 (u_l1 u_z1 2 p2) 3 p2), u_z2, [(1, 36), (0, 30)]) [] ((u_cp s.1 34 (p2.toNatClampNeg) 29 0 7), s.2)
      else
        none := (u_cE (t := g_t149) rfl _ _).trans ((u_E (5, 17, 5, 5) [28, 43, 57, 71] 120 g_t149 0 _ _ _).trans rfl)
set_option maxRecDepth 4000 in
theorem b_149_28p (li : Nat → Int32) (ll : Nat → Int64) (s : u_H) : u g_t149 28 (li, ll, [(1, 36), (0, 30)]) [] s =
  if u_cpk (Int32.ofInt 7) ((li 3) + (Int32.ofInt 7)) (Int32.ofInt 0) 7 984 = true then
    u g_t149 43 ((u_l1 li 3 ((li 3) + (Int32.ofInt 7))), ll, [(1, 36), (0, 30)]) [] ((u_cp s.1 34 (((li 3) + (Int32.ofInt 7)).toNatClampNeg) 30 0 7), s.2)
  else
    none := (u_E (5, 17, 5, 5) [28, 43, 57, 71] 120 g_t149 28 _ _ _).trans rfl
set_option maxRecDepth 4000 in
theorem b_149_43p (li : Nat → Int32) (ll : Nat → Int64) (s : u_H) : u g_t149 43 (li, ll, [(1, 36), (0, 30)]) [] s =
  if u_cpk (Int32.ofInt 2) ((li 3) + (Int32.ofInt 7)) (Int32.ofInt 0) 2 984 = true then
    u g_t149 57 ((u_l1 li 3 ((li 3) + (Int32.ofInt 7))), ll, [(1, 36), (0, 30)]) [] ((u_cp s.1 34 (((li 3) + (Int32.ofInt 7)).toNatClampNeg) 31 0 2), s.2)
  else
    none := (u_E (5, 17, 5, 5) [28, 43, 57, 71] 120 g_t149 43 _ _ _).trans rfl
set_option maxRecDepth 4000 in
theorem b_149_57p (li : Nat → Int32) (ll : Nat → Int64) (s : u_H) : u g_t149 57 (li, ll, [(1, 36), (0, 30)]) [] s =
  if u_cpk (Int32.ofInt 2) ((li 3) + (Int32.ofInt 2)) (Int32.ofInt 0) 2 984 = true then
    u g_t149 71 ((u_l1 li 3 ((li 3) + (Int32.ofInt 2))), ll, [(1, 36), (0, 30)]) [] ((u_cp s.1 34 (((li 3) + (Int32.ofInt 2)).toNatClampNeg) 32 0 2), s.2)
  else
    none := (u_E (5, 17, 5, 5) [28, 43, 57, 71] 120 g_t149 57 _ _ _).trans rfl
set_option maxRecDepth 4000 in
theorem b_149_71p (li : Nat → Int32) (ll : Nat → Int64) (s : u_H) : u g_t149 71 (li, ll, [(1, 36), (0, 30)]) [] s =
  if u_in ((li 3) + (Int32.ofInt 2)) 984 = true then
    if u_in (((li 3) + (Int32.ofInt 2)) + (Int32.ofInt 1)) 984 = true then
      if u_in (((li 3) + (Int32.ofInt 2)) + (Int32.ofInt 2)) 984 = true then
        if u_in (((li 3) + (Int32.ofInt 2)) + (Int32.ofInt 3)) 984 = true then
          if u_in (((li 3) + (Int32.ofInt 2)) + (Int32.ofInt 4)) 984 = true then
            if u_in (((li 3) + (Int32.ofInt 2)) + (Int32.ofInt 5)) 984 = true then
              some (none, ((y_u (y_u (y_u (y_u (y_u (y_u s.1 34 (((li 3) + (Int32.ofInt 2)).toNatClampNeg) (s.1 28 1)) 34 ((((li 3) + (Int32.ofInt 2)) + (Int32.ofInt 1)).toNatClampNeg) (s.1 28 3)) 34 ((((li 3) + (Int32.ofInt 2)) + (Int32.ofInt 2)).toNatClampNeg) (s.1 28 6)) 34 ((((li 3) + (Int32.ofInt 2)) + (Int32.ofInt 3)).toNatClampNeg) (s.1 28 7)) 34 ((((li 3) + (Int32.ofInt 2)) + (Int32.ofInt 4)).toNatClampNeg) (s.1 28 8)) 34 ((((li 3) + (Int32.ofInt 2)) + (Int32.ofInt 5)).toNatClampNeg) (s.1 28 9)), s.2))
            else
              none
          else
            none
        else
          none
      else
        none
    else
      none
  else
    none := (u_E (5, 17, 5, 5) [28, 43, 57, 71] 120 g_t149 71 _ _ _).trans rfl
set_option maxRecDepth 4000 in
theorem b_149x (p2 : Int32) (s : u_H) : u_c 149 [.inr (.inr 30), .inr (.inr 37), .inl p2] s =
  if p2 < 0 then
    some (none, s)
  else
    if (Int32.ofNat 72) < (p2 + (Int32.ofInt 24)) then
      some (none, s)
    else
      if u_cpk (Int32.ofInt 7) p2 (Int32.ofInt 0) 7 72 = true then
        u g_t149 28 ((u_l1 (u_l1 u_z1 2 p2) 3 p2), u_z2, [(1, 37), (0, 30)]) [] ((u_cp s.1 35 (p2.toNatClampNeg) 29 0 7), s.2)
      else
        none := (u_cE (t := g_t149) rfl _ _).trans ((u_E (5, 17, 5, 5) [28, 43, 57, 71] 120 g_t149 0 _ _ _).trans rfl)
set_option maxRecDepth 4000 in
theorem b_149_28x (li : Nat → Int32) (ll : Nat → Int64) (s : u_H) : u g_t149 28 (li, ll, [(1, 37), (0, 30)]) [] s =
  if u_cpk (Int32.ofInt 7) ((li 3) + (Int32.ofInt 7)) (Int32.ofInt 0) 7 72 = true then
    u g_t149 43 ((u_l1 li 3 ((li 3) + (Int32.ofInt 7))), ll, [(1, 37), (0, 30)]) [] ((u_cp s.1 35 (((li 3) + (Int32.ofInt 7)).toNatClampNeg) 30 0 7), s.2)
  else
    none := (u_E (5, 17, 5, 5) [28, 43, 57, 71] 120 g_t149 28 _ _ _).trans rfl
set_option maxRecDepth 4000 in
theorem b_149_43x (li : Nat → Int32) (ll : Nat → Int64) (s : u_H) : u g_t149 43 (li, ll, [(1, 37), (0, 30)]) [] s =
  if u_cpk (Int32.ofInt 2) ((li 3) + (Int32.ofInt 7)) (Int32.ofInt 0) 2 72 = true then
    u g_t149 57 ((u_l1 li 3 ((li 3) + (Int32.ofInt 7))), ll, [(1, 37), (0, 30)]) [] ((u_cp s.1 35 (((li 3) + (Int32.ofInt 7)).toNatClampNeg) 31 0 2), s.2)
  else
    none := (u_E (5, 17, 5, 5) [28, 43, 57, 71] 120 g_t149 43 _ _ _).trans rfl
set_option maxRecDepth 4000 in
theorem b_149_57x (li : Nat → Int32) (ll : Nat → Int64) (s : u_H) : u g_t149 57 (li, ll, [(1, 37), (0, 30)]) [] s =
  if u_cpk (Int32.ofInt 2) ((li 3) + (Int32.ofInt 2)) (Int32.ofInt 0) 2 72 = true then
    u g_t149 71 ((u_l1 li 3 ((li 3) + (Int32.ofInt 2))), ll, [(1, 37), (0, 30)]) [] ((u_cp s.1 35 (((li 3) + (Int32.ofInt 2)).toNatClampNeg) 32 0 2), s.2)
  else
    none := (u_E (5, 17, 5, 5) [28, 43, 57, 71] 120 g_t149 57 _ _ _).trans rfl
set_option maxRecDepth 4000 in
theorem b_149_71x (li : Nat → Int32) (ll : Nat → Int64) (s : u_H) : u g_t149 71 (li, ll, [(1, 37), (0, 30)]) [] s =
  if u_in ((li 3) + (Int32.ofInt 2)) 72 = true then
    if u_in (((li 3) + (Int32.ofInt 2)) + (Int32.ofInt 1)) 72 = true then
      if u_in (((li 3) + (Int32.ofInt 2)) + (Int32.ofInt 2)) 72 = true then
        if u_in (((li 3) + (Int32.ofInt 2)) + (Int32.ofInt 3)) 72 = true then
          if u_in (((li 3) + (Int32.ofInt 2)) + (Int32.ofInt 4)) 72 = true then
            if u_in (((li 3) + (Int32.ofInt 2)) + (Int32.ofInt 5)) 72 = true then
              some (none, ((y_u (y_u (y_u (y_u (y_u (y_u s.1 35 (((li 3) + (Int32.ofInt 2)).toNatClampNeg) (s.1 28 1)) 35 ((((li 3) + (Int32.ofInt 2)) + (Int32.ofInt 1)).toNatClampNeg) (s.1 28 3)) 35 ((((li 3) + (Int32.ofInt 2)) + (Int32.ofInt 2)).toNatClampNeg) (s.1 28 6)) 35 ((((li 3) + (Int32.ofInt 2)) + (Int32.ofInt 3)).toNatClampNeg) (s.1 28 7)) 35 ((((li 3) + (Int32.ofInt 2)) + (Int32.ofInt 4)).toNatClampNeg) (s.1 28 8)) 35 ((((li 3) + (Int32.ofInt 2)) + (Int32.ofInt 5)).toNatClampNeg) (s.1 28 9)), s.2))
            else
              none
          else
            none
        else
          none
      else
        none
    else
      none
  else
    none := (u_E (5, 17, 5, 5) [28, 43, 57, 71] 120 g_t149 71 _ _ _).trans rfl
/-! 151 GoodbyeQuay$Tape.byteAt(I)I -/
set_option maxRecDepth 4000 in
theorem b_151 (p1 : Int32) (s : u_H) : u_c 151 [.inr (.inr 3), .inl p1] s =
  if p1 < 0 then
    some (some (.inl (u_k (-1))), s)
  else
    if p1 < (s.1 1 1) then
      if u_in p1 1600 = true then
        some (some (.inl ((s.1 2 (p1.toNatClampNeg)) &&& (u_k 255))), s)
      else
        none
    else
      some (some (.inl (u_k (-1))), s) := (u_cE (t := g_t151) rfl _ _).trans ((u_E (5, 17, 5, 5) [] 120 g_t151 0 _ _ _).trans rfl)
/-! 152 GoodbyeQuay$Tape.put(I)V -/
set_option maxRecDepth 4000 in
theorem b_152 (p1 : Int32) (s : u_H) : u_c 152 [.inr (.inr 3), .inl p1] s =
  u g_t152 3 ((u_l1 (u_l1 u_z1 1 p1) 2 (Int32.ofInt 24)), u_z2, [(0, 3)]) [] s := (u_cE (t := g_t152) rfl _ _).trans ((u_E (5, 17, 5, 5) [3] 120 g_t152 0 _ _ _).trans rfl)
set_option maxRecDepth 4000 in
theorem b_152_3 (li : Nat → Int32) (ll : Nat → Int64) (s : u_H) : u g_t152 3 (li, ll, [(0, 3)]) [] s =
  if (li 2) < 0 then
    some (none, s)
  else
    if (s.1 1 1) < (u_k 1600) then
      if u_in (s.1 1 1) 1600 = true then
        u g_t152 3 ((u_l1 li 2 ((li 2) + (u_k (-8)))), ll, [(0, 3)]) [] ((y_u (y_u s.1 2 ((s.1 1 1).toNatClampNeg) ((li 1) >>> ((li 2) &&& 31)).toInt8.toInt32.toInt8.toInt32) 1 1 ((s.1 1 1) + (Int32.ofInt 1))), s.2)
      else
        none
    else
      some (none, s) := (u_E (5, 17, 5, 5) [3] 120 g_t152 3 _ _ _).trans rfl
/-! 154 GoodbyeQuay$Told.clear()V -/
set_option maxRecDepth 4000 in
theorem b_154 {W : Nat} (hW : W = 5 ∨ W = 17) (s : u_H) : u_c 154 [.inr (.inr W)] s =
  some (none, ((y_u (y_u (y_u (y_u (y_u (y_u (y_u (y_u s.1 (W - 2) 0 (Int32.ofInt 0)) (W - 2) 4 (Int32.ofInt 0)) (W - 2) 9 (Int32.ofInt 11)) (W - 2) 10 (Int32.ofInt 1)) (W - 2) 11 (Int32.ofInt 0)) (W - 2) 12 (Int32.ofInt 0)) (W + 6) 3 (Int32.ofInt 0)) (W + 6) 4 (Int32.ofInt 0)), s.2)) := by
  rcases hW with rfl | rfl
  · exact (u_cE (t := g_t154) rfl _ _).trans ((u_E (5, 17, 5, 5) [] 120 g_t154 0 _ _ _).trans rfl)
  · exact (u_cE (t := g_t154) rfl _ _).trans ((u_E (17, 5, 17, 17) [] 120 g_t154 0 _ _ _).trans rfl)
/-! 155 GoodbyeQuay$Told.pairsOf(I)I -/
set_option maxRecDepth 4000 in
theorem b_155 {W : Nat} (hW : W = 5 ∨ W = 17) (p1 : Int32) (s : u_H) : u_c 155 [.inr (.inr W), .inl p1] s =
  u g_t155 4 ((u_l1 (u_l1 (u_l1 u_z1 1 p1) 2 (Int32.ofInt 0)) 3 (Int32.ofInt 0)), u_z2, [(0, W)]) [] s := by
  rcases hW with rfl | rfl
  · exact (u_cE (t := g_t155) rfl _ _).trans ((u_E (5, 17, 5, 5) [4] 120 g_t155 0 _ _ _).trans rfl)
  · exact (u_cE (t := g_t155) rfl _ _).trans ((u_E (17, 5, 17, 17) [4] 120 g_t155 0 _ _ _).trans rfl)
set_option maxRecDepth 4000 in
theorem b_155_4 {W : Nat} (hW : W = 5 ∨ W = 17) (li : Nat → Int32) (ll : Nat → Int64) (s : u_H) : u g_t155 4 (li, ll, [(0, W)]) [] s =
  if (li 3) < (s.1 (W - 2) 4) then
    if u_in (li 3) 7 = true then
      if (s.1 (W + 3) ((li 3).toNatClampNeg)) = (li 1) then
        u g_t155 4 ((u_l1 (u_l1 li 2 ((li 2) ||| ((Int32.ofInt 1) <<< ((li 3) &&& 31)))) 3 ((li 3) + (Int32.ofInt 1))), ll, [(0, W)]) [] s
      else
        u g_t155 4 ((u_l1 (u_l1 li 2 ((li 2) ||| (Int32.ofInt 0))) 3 ((li 3) + (Int32.ofInt 1))), ll, [(0, W)]) [] s
    else
      none
  else
    some (some (.inl (li 2)), s) := by
  rcases hW with rfl | rfl
  · exact (u_E (5, 17, 5, 5) [4] 120 g_t155 4 _ _ _).trans rfl
  · exact (u_E (17, 5, 17, 17) [4] 120 g_t155 4 _ _ _).trans rfl
/-! 157 GoodbyeQuay$Trial.emptyIn()I -/
set_option maxRecDepth 4000 in
theorem b_157 (s : u_H) : u_c 157 [.inr (.inr 38)] s =
  u g_t157 7 ((u_l1 (u_l1 u_z1 1 (s.1 36 14)) 2 (Int32.ofInt 0)), u_z2, [(0, 38)]) [] s := (u_cE (t := g_t157) rfl _ _).trans ((u_E (5, 17, 5, 5) [7, 53] 120 g_t157 0 _ _ _).trans rfl)
set_option maxRecDepth 4000 in
theorem b_157_7 (li : Nat → Int32) (ll : Nat → Int64) (s : u_H) : u g_t157 7 (li, ll, [(0, 38)]) [] s =
  if (li 2) < (s.1 36 10) then
    if u_in (li 2) 3 = true then
      if (s.1 40 ((li 2).toNatClampNeg)) = (u_k (-1)) then
        u g_t157 7 ((u_l1 (u_l1 li 1 (li 1)) 2 ((li 2) + (Int32.ofInt 1))), ll, [(0, 38)]) [] s
      else
        if u_in (li 2) 3 = true then
          if u_in (s.1 40 ((li 2).toNatClampNeg)) 8 = true then
            u g_t157 7 ((u_l1 (u_l1 li 1 (if (li 1) < (s.1 44 ((s.1 40 ((li 2).toNatClampNeg)).toNatClampNeg)) then (s.1 44 ((s.1 40 ((li 2).toNatClampNeg)).toNatClampNeg)) else (li 1))) 2 ((li 2) + (Int32.ofInt 1))), ll, [(0, 38)]) [] s
          else
            none
        else
          none
    else
      none
  else
    u g_t157 53 ((u_l1 li 2 (Int32.ofInt 0)), ll, [(0, 38)]) [] s := (u_E (5, 17, 5, 5) [7, 53] 120 g_t157 7 _ _ _).trans rfl
set_option maxRecDepth 4000 in
theorem b_157_53 (li : Nat → Int32) (ll : Nat → Int64) (s : u_H) : u g_t157 53 (li, ll, [(0, 38)]) [] s =
  if (li 2) < (s.1 36 2) then
    if u_in (li 2) 7 = true then
      if u_in (s.1 37 ((li 2).toNatClampNeg)) 8 = true then
        if u_in (li 2) 7 = true then
          if u_in (s.1 37 ((li 2).toNatClampNeg)) 8 = true then
            u g_t157 53 ((u_l1 (u_l1 li 1 (if (li 1) < (if ((s.1 43 ((s.1 37 ((li 2).toNatClampNeg)).toNatClampNeg)) + (Int32.ofInt 1)) < (s.1 44 ((s.1 37 ((li 2).toNatClampNeg)).toNatClampNeg)) then (s.1 44 ((s.1 37 ((li 2).toNatClampNeg)).toNatClampNeg)) else ((s.1 43 ((s.1 37 ((li 2).toNatClampNeg)).toNatClampNeg)) + (Int32.ofInt 1))) then (if ((s.1 43 ((s.1 37 ((li 2).toNatClampNeg)).toNatClampNeg)) + (Int32.ofInt 1)) < (s.1 44 ((s.1 37 ((li 2).toNatClampNeg)).toNatClampNeg)) then (s.1 44 ((s.1 37 ((li 2).toNatClampNeg)).toNatClampNeg)) else ((s.1 43 ((s.1 37 ((li 2).toNatClampNeg)).toNatClampNeg)) + (Int32.ofInt 1))) else (li 1))) 2 ((li 2) + (Int32.ofInt 1))), ll, [(0, 38)]) [] s
          else
            none
        else
          none
      else
        none
    else
      none
  else
    some (some (.inl ((li 1) - (s.1 36 14))), s) := (u_E (5, 17, 5, 5) [7, 53] 120 g_t157 53 _ _ _).trans rfl
/-! 158 GoodbyeQuay$Trial.exchange(II)V -/
set_option maxRecDepth 4000 in
theorem b_158 (p1 : Int32) (p2 : Int32) (s : u_H) : u_c 158 [.inr (.inr 38), .inl p1, .inl p2] s =
  if p1 < 0 then
    some (none, s)
  else
    if p1 < (s.1 36 2) then
      if p2 < 0 then
        some (none, s)
      else
        if p2 < (s.1 36 2) then
          if u_in p1 7 = true then
            if u_in p2 7 = true then
              if u_in p1 7 = true then
                if u_in p2 7 = true then
                  some (none, ((y_u (y_u s.1 37 (p1.toNatClampNeg) (s.1 37 (p2.toNatClampNeg))) 37 (p2.toNatClampNeg) (s.1 37 (p1.toNatClampNeg))), s.2))
                else
                  none
              else
                none
            else
              none
          else
            none
        else
          some (none, s)
    else
      some (none, s) := (u_cE (t := g_t158) rfl _ _).trans ((u_E (5, 17, 5, 5) [] 120 g_t158 0 _ _ _).trans rfl)
/-! 159 GoodbyeQuay$Trial.guestSays(I)Z -/
set_option maxRecDepth 4000 in
theorem b_159 (p1 : Int32) (s : u_H) : u_c 159 [.inr (.inr 38), .inl p1] s =
  if u_in (s.1 36 4) 5 = true then
    if ((s.1 36 14) + p1) < (s.1 39 ((s.1 36 4).toNatClampNeg)) then
      u_bv (u_c 165 [.inr (.inr 38), .inl (Int32.ofInt 0)] s) fun s1 =>
      u g_t159 29 ((u_l1 (u_l1 (u_l1 u_z1 1 p1) 2 ((s.1 36 14) + p1)) 3 (Int32.ofInt 0)), u_z2, [(0, 38)]) [] s1
    else
      some (some (.inl (Int32.ofInt 0)), s)
  else
    none := (u_cE (t := g_t159) rfl _ _).trans ((u_E (5, 17, 5, 5) [29, 59] 120 g_t159 0 _ _ _).trans rfl)
set_option maxRecDepth 4000 in
theorem b_159_29 (li : Nat → Int32) (ll : Nat → Int64) (s : u_H) : u g_t159 29 (li, ll, [(0, 38)]) [] s =
  if (li 3) < (s.1 36 2) then
    u_bi (u_c 163 [.inr (.inr 38)] s) fun x2 s1 =>
    if u_in x2 3 = true then
      if (s1.1 42 (x2.toNatClampNeg)) < (li 2) then
        u g_t159 59 ((u_l1 li 4 x2), ll, [(0, 38)]) [.inl (Int32.ofInt 0)] s1
      else
        u g_t159 59 ((u_l1 li 4 x2), ll, [(0, 38)]) [.inl (Int32.ofInt 1)] s1
    else
      none
  else
    u_bi (u_c 163 [.inr (.inr 38)] s) fun x4 s3 =>
    if u_in x4 3 = true then
      if u_in x4 3 = true then
        u_bi (u_c 172 [.inr (.inr 38), .inl (Int32.ofInt 7), .inl x4, .inl (Int32.ofInt 0)] ((y_u s3.1 42 (x4.toNatClampNeg) (if (s3.1 42 (x4.toNatClampNeg)) < (li 2) then (li 2) else (s3.1 42 (x4.toNatClampNeg)))), s3.2)) fun x6 s5 =>
        if q_ib x6 = true then some (some (.inl x6), s5) else none
      else
        none
    else
      none := (u_E (5, 17, 5, 5) [29, 59] 120 g_t159 29 _ _ _).trans rfl
set_option maxRecDepth 4000 in
theorem b_159_59 (v0 : Int32) (li : Nat → Int32) (ll : Nat → Int64) (s : u_H) : u g_t159 59 (li, ll, [(0, 38)]) [.inl v0] s =
  if u_in (li 3) 7 = true then
    u_bi (u_c 172 [.inr (.inr 38), .inl (s.1 37 ((li 3).toNatClampNeg)), .inl (li 4), .inl ((((s.1 36 2) - (Int32.ofInt 1)) - (li 3)) + v0)] s) fun x2 s1 =>
    u g_t159 29 ((u_l1 (u_l1 li 5 v0) 3 ((li 3) + (Int32.ofInt 1))), ll, [(0, 38)]) [] s1
  else
    none := (u_E (5, 17, 5, 5) [29, 59] 120 g_t159 59 _ _ _).trans rfl
/-! 160 GoodbyeQuay$Trial.howBehind(II)I -/
set_option maxRecDepth 4000 in
theorem b_160 (p1 : Int32) (p2 : Int32) (s : u_H) : u_c 160 [.inr (.inr 38), .inl p1, .inl p2] s =
  if u_in p1 8 = true then
    if ((s.1 43 (p1.toNatClampNeg)) - (s.1 36 14)) < p2 then
      if u_in p1 8 = true then
        if p2 < ((s.1 44 (p1.toNatClampNeg)) - (s.1 36 14)) then
          some (some (.inl (Int32.ofInt 1)), s)
        else
          u_bi (u_c 28 [.inl (s.1 36 16), .inl p1] s) fun x2 s1 =>
          if x2 = 0 then
            some (some (.inl (Int32.ofInt 3)), s1)
          else
            some (some (.inl (Int32.ofInt 2)), s1)
      else
        none
    else
      some (some (.inl (Int32.ofInt 0)), s)
  else
    none := (u_cE (t := g_t160) rfl _ _).trans ((u_E (5, 17, 5, 5) [] 120 g_t160 0 _ _ _).trans rfl)
/-! 161 GoodbyeQuay$Trial.leaveOut(I)V -/
set_option maxRecDepth 4000 in
theorem b_161 (p1 : Int32) (s : u_H) : u_c 161 [.inr (.inr 38), .inl p1] s =
  u g_t161 4 ((u_l1 (u_l1 (u_l1 u_z1 1 p1) 2 (Int32.ofInt 0)) 3 (Int32.ofInt 0)), u_z2, [(0, 38)]) [] s := (u_cE (t := g_t161) rfl _ _).trans ((u_E (5, 17, 5, 5) [4] 120 g_t161 0 _ _ _).trans rfl)
set_option maxRecDepth 4000 in
theorem b_161_4 (li : Nat → Int32) (ll : Nat → Int64) (s : u_H) : u g_t161 4 (li, ll, [(0, 38)]) [] s =
  if (li 3) < (s.1 36 2) then
    if u_in (li 3) 7 = true then
      u_bi (u_c 28 [.inl (li 1), .inl (s.1 37 ((li 3).toNatClampNeg))] s) fun x2 s1 =>
      if x2 = 0 then
        if u_in (li 3) 7 = true then
          if u_in (li 2) 7 = true then
            u g_t161 4 ((u_l1 (u_l1 li 2 ((li 2) + (Int32.ofInt 1))) 3 ((li 3) + (Int32.ofInt 1))), ll, [(0, 38)]) [] ((y_u s1.1 37 ((li 2).toNatClampNeg) (s1.1 37 ((li 3).toNatClampNeg))), s1.2)
          else
            none
        else
          none
      else
        u g_t161 4 ((u_l1 li 3 ((li 3) + (Int32.ofInt 1))), ll, [(0, 38)]) [] s1
    else
      none
  else
    some (none, ((y_u s.1 36 2 (li 2)), s.2)) := (u_E (5, 17, 5, 5) [4] 120 g_t161 4 _ _ _).trans rfl
/-! 162 GoodbyeQuay$Trial.lengthOf(III)I -/
set_option maxRecDepth 4000 in
theorem b_162 {W : Nat} (hW : W = 5 ∨ W = 17) (p1 : Int32) (p2 : Int32) (p3 : Int32) (s : u_H) : u_c 162 [.inr (.inr 38), .inl p1, .inl p2, .inl p3] s =
  if u_in p1 8 = true then
    if s.2.2.2.2.2 = W then
      if 0 < (s.1 (W + 6) 3) then
        if p1 = (Int32.ofInt 7) then
          u g_t162 47 ((u_l1 (u_l1 (u_l1 (u_l1 u_z1 1 p1) 2 p2) 3 p3) 4 (if (s.1 36 7) < (s.1 38 (p1.toNatClampNeg)) then (s.1 36 7) else (s.1 38 (p1.toNatClampNeg)))), u_z2, [(0, 38)]) [.inl (Int32.ofInt 1)] s
        else
          if s.2.2.2.2.2 = W then
            if u_in p1 7 = true then
              u g_t162 47 ((u_l1 (u_l1 (u_l1 (u_l1 u_z1 1 p1) 2 p2) 3 p3) 4 (if (s.1 36 7) < (s.1 38 (p1.toNatClampNeg)) then (s.1 36 7) else (s.1 38 (p1.toNatClampNeg)))), u_z2, [(0, 38)]) [.inl (s.1 (W + 5) (p1.toNatClampNeg))] s
            else
              none
          else
            u g_t162 42 ((u_l1 (u_l1 (u_l1 (u_l1 u_z1 1 p1) 2 p2) 3 p3) 4 (if (s.1 36 7) < (s.1 38 (p1.toNatClampNeg)) then (s.1 36 7) else (s.1 38 (p1.toNatClampNeg)))), u_z2, [(0, 38)]) [.inr (.inr s.2.2.2.2.2)] s
      else
        u g_t162 90 ((u_l1 (u_l1 (u_l1 (u_l1 u_z1 1 p1) 2 p2) 3 p3) 4 (if (s.1 36 7) < (s.1 38 (p1.toNatClampNeg)) then (s.1 36 7) else (s.1 38 (p1.toNatClampNeg)))), u_z2, [(0, 38)]) [] s
    else
      u g_t162 19 ((u_l1 (u_l1 (u_l1 (u_l1 u_z1 1 p1) 2 p2) 3 p3) 4 (if (s.1 36 7) < (s.1 38 (p1.toNatClampNeg)) then (s.1 36 7) else (s.1 38 (p1.toNatClampNeg)))), u_z2, [(0, 38)]) [.inr (.inr s.2.2.2.2.2)] s
  else
    none := by
  rcases hW with rfl | rfl
  · exact (u_cE (t := g_t162) rfl _ _).trans ((u_E (5, 17, 5, 5) [47, 90] 120 g_t162 0 _ _ _).trans rfl)
  · exact (u_cE (t := g_t162) rfl _ _).trans ((u_E (17, 5, 17, 17) [47, 90] 120 g_t162 0 _ _ _).trans rfl)
set_option maxRecDepth 4000 in
theorem b_162_47 {W : Nat} (hW : W = 5 ∨ W = 17) (v0 : Int32) (li : Nat → Int32) (ll : Nat → Int64) (s : u_H) : u g_t162 47 (li, ll, [(0, 38)]) [.inl v0] s =
  u_bi (u_c 167 [.inr (.inr 38), .inl (li 1)] s) fun x2 s1 =>
  if s1.2.2.2.2.2 = W then
    if u_in (li 1) 8 = true then
      u_bi (u_c 86 [.inr (.inr (W + 8)), .inl (s1.1 38 ((li 1).toNatClampNeg)), .inl v0, .inl (s1.1 36 7), .inl (li 2), .inl (if (Int32.ofInt 0) < (x2 - (li 3)) then (x2 - (li 3)) else (Int32.ofInt 0)), .inl (li 3)] s1) fun x4 s3 =>
      u g_t162 90 ((u_l1 (u_l1 (u_l1 li 5 v0) 6 (if (Int32.ofInt 0) < (x2 - (li 3)) then (x2 - (li 3)) else (Int32.ofInt 0))) 4 x4), ll, [(0, 38)]) [] s3
    else
      none
  else
    u g_t162 66 ((u_l1 (u_l1 li 5 v0) 6 (if (Int32.ofInt 0) < (x2 - (li 3)) then (x2 - (li 3)) else (Int32.ofInt 0))), ll, [(0, 38)]) [.inr (.inr s1.2.2.2.2.2)] s1 := by
  rcases hW with rfl | rfl
  · exact (u_E (5, 17, 5, 5) [47, 90] 120 g_t162 47 _ _ _).trans rfl
  · exact (u_E (17, 5, 17, 17) [47, 90] 120 g_t162 47 _ _ _).trans rfl
set_option maxRecDepth 4000 in
theorem b_162_90 (li : Nat → Int32) (ll : Nat → Int64) (s : u_H) : u g_t162 90 (li, ll, [(0, 38)]) [] s =
  u_bi (u_c 28 [.inl (s.1 36 6), .inl (li 1)] s) fun x2 s1 =>
  if x2 = 0 then
    some (some (.inl (if (Int32.ofInt 1) < (if (li 4) < (Int32.ofInt 60) then (li 4) else (Int32.ofInt 60)) then (if (li 4) < (Int32.ofInt 60) then (li 4) else (Int32.ofInt 60)) else (Int32.ofInt 1))), s1)
  else
    some (some (.inl (if (Int32.ofInt 1) < ((if (Int32.ofInt 1) < (if (li 4) < (Int32.ofInt 60) then (li 4) else (Int32.ofInt 60)) then (if (li 4) < (Int32.ofInt 60) then (li 4) else (Int32.ofInt 60)) else (Int32.ofInt 1)) / (Int32.ofInt 2)) then ((if (Int32.ofInt 1) < (if (li 4) < (Int32.ofInt 60) then (li 4) else (Int32.ofInt 60)) then (if (li 4) < (Int32.ofInt 60) then (li 4) else (Int32.ofInt 60)) else (Int32.ofInt 1)) / (Int32.ofInt 2)) else (Int32.ofInt 1))), s1) := (u_E (5, 17, 5, 5) [47, 90] 120 g_t162 90 _ _ _).trans rfl
/-! 163 GoodbyeQuay$Trial.nextRail()I -/
set_option maxRecDepth 4000 in
theorem b_163 (s : u_H) : u_c 163 [.inr (.inr 38)] s =
  u g_t163 4 ((u_l1 (u_l1 u_z1 1 (Int32.ofInt 0)) 2 (Int32.ofInt 1)), u_z2, [(0, 38)]) [] s := (u_cE (t := g_t163) rfl _ _).trans ((u_E (5, 17, 5, 5) [4] 120 g_t163 0 _ _ _).trans rfl)
set_option maxRecDepth 4000 in
theorem b_163_4 (li : Nat → Int32) (ll : Nat → Int64) (s : u_H) : u g_t163 4 (li, ll, [(0, 38)]) [] s =
  if (li 2) < (s.1 36 10) then
    if u_in (li 2) 3 = true then
      if u_in (li 1) 3 = true then
        if (s.1 42 ((li 2).toNatClampNeg)) < (s.1 42 ((li 1).toNatClampNeg)) then
          u g_t163 4 ((u_l1 (u_l1 li 1 (li 2)) 2 ((li 2) + (Int32.ofInt 1))), ll, [(0, 38)]) [] s
        else
          u g_t163 4 ((u_l1 (u_l1 li 1 (li 1)) 2 ((li 2) + (Int32.ofInt 1))), ll, [(0, 38)]) [] s
      else
        none
    else
      none
  else
    some (some (.inl (li 1)), s) := (u_E (5, 17, 5, 5) [4] 120 g_t163 4 _ _ _).trans rfl
/-! 164 GoodbyeQuay$Trial.open(LGoodbyeQuay$Told;LGoodbyeQuay$State;)V -/
set_option maxRecDepth 4000 in
theorem b_164 {W : Nat} (hW : W = 5 ∨ W = 17) (s : u_H) : u_c 164 [.inr (.inr 38), .inr (.inr W), .inr (.inr 30)] s =
  u g_t164 20 (u_z1, u_z2, [(2, 30), (1, W), (0, 38)]) [] ((u_cp s.1 37 0 29 0 7), s.2.1, (s.2.2.1, s.2.2.2.1, s.2.2.2.2.1, W)) := by
  rcases hW with rfl | rfl
  · exact (u_cE (t := g_t164) rfl _ _).trans ((u_E (5, 17, 5, 5) [20, 43, 45, 102, 139] 120 g_t164 0 _ _ _).trans rfl)
  · exact (u_cE (t := g_t164) rfl _ _).trans ((u_E (17, 5, 17, 17) [20, 43, 45, 102, 139] 120 g_t164 0 _ _ _).trans rfl)
set_option maxRecDepth 4000 in
theorem b_164_20 {W : Nat} (hW : W = 5 ∨ W = 17) (li : Nat → Int32) (ll : Nat → Int64) (s : u_H) : u g_t164 20 (li, ll, [(2, 30), (1, W), (0, 38)]) [] s =
  u g_t164 43 (li, ll, [(2, 30), (1, W), (0, 38)]) [] ((u_cp (y_u s.1 36 2 (s.1 28 1)) 38 0 (W + 4) 0 7), s.2) := by
  rcases hW with rfl | rfl
  · exact (u_E (5, 17, 5, 5) [20, 43, 45, 102, 139] 120 g_t164 20 _ _ _).trans rfl
  · exact (u_E (17, 5, 17, 17) [20, 43, 45, 102, 139] 120 g_t164 20 _ _ _).trans rfl
set_option maxRecDepth 4000 in
theorem b_164_43 {W : Nat} (hW : W = 5 ∨ W = 17) (li : Nat → Int32) (ll : Nat → Int64) (s : u_H) : u g_t164 43 (li, ll, [(2, 30), (1, W), (0, 38)]) [] s =
  u g_t164 45 ((u_l1 li 3 (Int32.ofInt 0)), ll, [(2, 30), (1, W), (0, 38)]) [] s := by
  rcases hW with rfl | rfl
  · exact (u_E (5, 17, 5, 5) [20, 43, 45, 102, 139] 120 g_t164 43 _ _ _).trans rfl
  · exact (u_E (17, 5, 17, 17) [20, 43, 45, 102, 139] 120 g_t164 43 _ _ _).trans rfl
set_option maxRecDepth 4000 in
theorem b_164_45 {W : Nat} (hW : W = 5 ∨ W = 17) (li : Nat → Int32) (ll : Nat → Int64) (s : u_H) : u g_t164 45 (li, ll, [(2, 30), (1, W), (0, 38)]) [] s =
  if (li 3) < (s.1 (W - 2) 0) then
    u_bi (u_c 148 [.inr (.inr 30), .inr (.inr W), .inl (li 3)] s) fun x2 s1 =>
    if u_in (li 3) 5 = true then
      u g_t164 45 ((u_l1 li 3 ((li 3) + (Int32.ofInt 1))), ll, [(2, 30), (1, W), (0, 38)]) [] ((y_u s1.1 39 ((li 3).toNatClampNeg) x2), s1.2)
    else
      none
  else
    u g_t164 102 ((u_l1 li 3 (Int32.ofInt 0)), ll, [(2, 30), (1, W), (0, 38)]) [] ((y_u (y_u (y_u (y_u s.1 36 6 (s.1 28 3)) 36 7 (s.1 (W - 2) 9)) 36 8 (Int32.ofInt 0)) 36 10 (s.1 (W - 2) 10)), s.2) := by
  rcases hW with rfl | rfl
  · exact (u_E (5, 17, 5, 5) [20, 43, 45, 102, 139] 120 g_t164 45 _ _ _).trans rfl
  · exact (u_E (17, 5, 17, 17) [20, 43, 45, 102, 139] 120 g_t164 45 _ _ _).trans rfl
set_option maxRecDepth 4000 in
theorem b_164_102 {W : Nat} (hW : W = 5 ∨ W = 17) (li : Nat → Int32) (ll : Nat → Int64) (s : u_H) : u g_t164 102 (li, ll, [(2, 30), (1, W), (0, 38)]) [] s =
  if (li 3) < (Int32.ofInt 3) then
    if (li 3) < (Int32.ofInt 2) then
      if (Int32.ofInt 1) = 0 then
        u g_t164 139 ((u_l1 li 4 (Int32.ofInt 1)), ll, [(2, 30), (1, W), (0, 38)]) [.inl (u_k (-1)), .inl (li 3), .inr (.inr 42)] s
      else
        if u_in (li 3) 2 = true then
          u g_t164 139 ((u_l1 li 4 (Int32.ofInt 1)), ll, [(2, 30), (1, W), (0, 38)]) [.inl (s.1 31 ((li 3).toNatClampNeg)), .inl (li 3), .inr (.inr 42)] s
        else
          none
    else
      if (Int32.ofInt 0) = 0 then
        u g_t164 139 ((u_l1 li 4 (Int32.ofInt 0)), ll, [(2, 30), (1, W), (0, 38)]) [.inl (u_k (-1)), .inl (li 3), .inr (.inr 42)] s
      else
        if u_in (li 3) 2 = true then
          u g_t164 139 ((u_l1 li 4 (Int32.ofInt 0)), ll, [(2, 30), (1, W), (0, 38)]) [.inl (s.1 31 ((li 3).toNatClampNeg)), .inl (li 3), .inr (.inr 42)] s
        else
          none
  else
    u_bi (u_c 140 [.inr (.inr 30), .inl (Int32.ofInt 2), .inl (s.1 (W - 2) 4)] ((y_u s.1 36 14 (s.1 28 8)), s.2)) fun x2 s1 =>
    some (none, ((y_u s1.1 36 15 x2), s1.2)) := by
  rcases hW with rfl | rfl
  · exact (u_E (5, 17, 5, 5) [20, 43, 45, 102, 139] 120 g_t164 102 _ _ _).trans rfl
  · exact (u_E (17, 5, 17, 17) [20, 43, 45, 102, 139] 120 g_t164 102 _ _ _).trans rfl
set_option maxRecDepth 4000 in
theorem b_164_139 {W : Nat} (hW : W = 5 ∨ W = 17) (v0 : Int32) (v1 : Int32) (li : Nat → Int32) (ll : Nat → Int64) (s : u_H) : u g_t164 139 (li, ll, [(2, 30), (1, W), (0, 38)]) [.inl v0, .inl v1, .inr (.inr 42)] s =
  if u_in v1 3 = true then
    if (li 4) = 0 then
      if u_in (li 3) 3 = true then
        u g_t164 102 ((u_l1 li 3 ((li 3) + (Int32.ofInt 1))), ll, [(2, 30), (1, W), (0, 38)]) [] ((y_u (y_u s.1 40 (v1.toNatClampNeg) v0) 41 ((li 3).toNatClampNeg) (Int32.ofInt 0)), s.2)
      else
        none
    else
      if u_in (li 3) 2 = true then
        if u_in (li 3) 3 = true then
          u g_t164 102 ((u_l1 li 3 ((li 3) + (Int32.ofInt 1))), ll, [(2, 30), (1, W), (0, 38)]) [] ((y_u (y_u s.1 40 (v1.toNatClampNeg) v0) 41 ((li 3).toNatClampNeg) (s.1 32 ((li 3).toNatClampNeg))), s.2)
        else
          none
      else
        none
  else
    none := by
  rcases hW with rfl | rfl
  · exact (u_E (5, 17, 5, 5) [20, 43, 45, 102, 139] 120 g_t164 139 _ _ _).trans rfl
  · exact (u_E (17, 5, 17, 17) [20, 43, 45, 102, 139] 120 g_t164 139 _ _ _).trans rfl
/-! 165 GoodbyeQuay$Trial.openRails(I)V -/
set_option maxRecDepth 4000 in
theorem b_165 (p1 : Int32) (s : u_H) : u_c 165 [.inr (.inr 38), .inl p1] s =
  u g_t165 15 ((u_l1 (u_l1 u_z1 1 p1) 2 (Int32.ofInt 0)), u_z2, [(0, 38)]) [] ((y_u (y_u s.1 36 16 (s.1 36 15)) 36 17 (Int32.ofInt 0)), s.2) := (u_cE (t := g_t165) rfl _ _).trans ((u_E (5, 17, 5, 5) [15] 120 g_t165 0 _ _ _).trans rfl)
set_option maxRecDepth 4000 in
theorem b_165_15 (li : Nat → Int32) (ll : Nat → Int64) (s : u_H) : u g_t165 15 (li, ll, [(0, 38)]) [] s =
  if (li 2) < (s.1 36 10) then
    if u_in (li 2) 3 = true then
      if u_in (li 2) 3 = true then
        if (s.1 40 ((li 2).toNatClampNeg)) = (u_k (-1)) then
          if u_in (li 2) 3 = true then
            if u_in (li 2) 3 = true then
              u g_t165 15 ((u_l1 (u_l1 li 3 (s.1 40 ((li 2).toNatClampNeg))) 2 ((li 2) + (Int32.ofInt 1))), ll, [(0, 38)]) [] ((y_u (y_u s.1 42 ((li 2).toNatClampNeg) (s.1 36 14)) 42 ((li 2).toNatClampNeg) (((y_u s.1 42 ((li 2).toNatClampNeg) (s.1 36 14)) 42 ((li 2).toNatClampNeg)) + (li 1))), s.2)
            else
              none
          else
            none
        else
          if u_in (s.1 40 ((li 2).toNatClampNeg)) 8 = true then
            if u_in (li 2) 3 = true then
              u_bi (u_c 170 [.inr (.inr 38), .inl (s.1 40 ((li 2).toNatClampNeg)), .inl ((s.1 36 14) + (s.1 41 ((li 2).toNatClampNeg)))] ((y_u (y_u s.1 42 ((li 2).toNatClampNeg) (s.1 36 14)) 43 ((s.1 40 ((li 2).toNatClampNeg)).toNatClampNeg) ((s.1 36 14) - (Int32.ofInt 1))), s.2)) fun x2 s1 =>
              if u_in (s.1 40 ((li 2).toNatClampNeg)) 8 = true then
                if u_in (li 2) 3 = true then
                  if u_in (li 2) 3 = true then
                    if u_in (li 2) 3 = true then
                      u g_t165 15 ((u_l1 (u_l1 li 3 (s.1 40 ((li 2).toNatClampNeg))) 2 ((li 2) + (Int32.ofInt 1))), ll, [(0, 38)]) [] ((y_u (y_u s1.1 42 ((li 2).toNatClampNeg) (s1.1 44 ((s.1 40 ((li 2).toNatClampNeg)).toNatClampNeg))) 42 ((li 2).toNatClampNeg) (((y_u s1.1 42 ((li 2).toNatClampNeg) (s1.1 44 ((s.1 40 ((li 2).toNatClampNeg)).toNatClampNeg))) 42 ((li 2).toNatClampNeg)) + (li 1))), s1.2)
                    else
                      none
                  else
                    none
                else
                  none
              else
                none
            else
              none
          else
            none
      else
        none
    else
      none
  else
    some (none, s) := (u_E (5, 17, 5, 5) [15] 120 g_t165 15 _ _ _).trans rfl
/-! 166 GoodbyeQuay$Trial.run(I)V -/
set_option maxRecDepth 4000 in
theorem b_166 (p1 : Int32) (s : u_H) : u_c 166 [.inr (.inr 38), .inl p1] s =
  u_bv (u_c 165 [.inr (.inr 38), .inl p1] s) fun s1 =>
  u g_t166 7 ((u_l1 (u_l1 u_z1 1 p1) 2 (Int32.ofInt 0)), u_z2, [(0, 38)]) [] s1 := (u_cE (t := g_t166) rfl _ _).trans ((u_E (5, 17, 5, 5) [7] 120 g_t166 0 _ _ _).trans rfl)
set_option maxRecDepth 4000 in
theorem b_166_7 (li : Nat → Int32) (ll : Nat → Int64) (s : u_H) : u g_t166 7 (li, ll, [(0, 38)]) [] s =
  if (li 2) < (s.1 36 2) then
    if u_in (li 2) 7 = true then
      u_bi (u_c 163 [.inr (.inr 38)] s) fun x2 s1 =>
      u_bi (u_c 172 [.inr (.inr 38), .inl (s.1 37 ((li 2).toNatClampNeg)), .inl x2, .inl (((s1.1 36 2) - (Int32.ofInt 1)) - (li 2))] s1) fun x4 s3 =>
      u g_t166 7 ((u_l1 li 2 ((li 2) + (Int32.ofInt 1))), ll, [(0, 38)]) [] s3
    else
      none
  else
    some (none, s) := (u_E (5, 17, 5, 5) [7] 120 g_t166 7 _ _ _).trans rfl
/-! 167 GoodbyeQuay$Trial.sailsFor(I)I -/
set_option maxRecDepth 4000 in
theorem b_167 {W : Nat} (hW : W = 5 ∨ W = 17) (p1 : Int32) (s : u_H) : u_c 167 [.inr (.inr 38), .inl p1] s =
  if p1 = (Int32.ofInt 7) then
    if u_in (s.1 36 4) 5 = true then
      some (some (.inl (s.1 39 ((s.1 36 4).toNatClampNeg))), s)
    else
      none
  else
    if s.2.2.2.2.2 = W then
      if u_in p1 7 = true then
        if u_in (s.1 (W + 3) (p1.toNatClampNeg)) 5 = true then
          some (some (.inl (s.1 39 ((s.1 (W + 3) (p1.toNatClampNeg)).toNatClampNeg))), s)
        else
          none
      else
        none
    else
      u g_t167 21 ((u_l1 u_z1 1 p1), u_z2, [(0, 38)]) [.inr (.inr s.2.2.2.2.2), .inr (.inr 41)] s := by
  rcases hW with rfl | rfl
  · exact (u_cE (t := g_t167) rfl _ _).trans ((u_E (5, 17, 5, 5) [] 120 g_t167 0 _ _ _).trans rfl)
  · exact (u_cE (t := g_t167) rfl _ _).trans ((u_E (17, 5, 17, 17) [] 120 g_t167 0 _ _ _).trans rfl)
/-! 168 GoodbyeQuay$Trial.saysIn(I)I -/
set_option maxRecDepth 4000 in
theorem b_168 (p1 : Int32) (s : u_H) : u_c 168 [.inr (.inr 38), .inl p1] s =
  u_bi (u_c 28 [.inl (s.1 36 16), .inl p1] s) fun x2 s1 =>
  if x2 = 0 then
    some (some (.inl (u_k (-1))), s1)
  else
    u_bi (u_c 28 [.inl (s1.1 36 15), .inl p1] s1) fun x4 s3 =>
    if x4 = 0 then
      if u_in p1 8 = true then
        some (some (.inl ((s3.1 44 (p1.toNatClampNeg)) - (s3.1 36 14))), s3)
      else
        none
    else
      some (some (.inl (Int32.ofInt 0)), s3) := (u_cE (t := g_t168) rfl _ _).trans ((u_E (5, 17, 5, 5) [] 120 g_t168 0 _ _ _).trans rfl)
/-! 169 GoodbyeQuay$Trial.sendToEnd(I)V -/
set_option maxRecDepth 4000 in
theorem b_169 (p1 : Int32) (s : u_H) : u_c 169 [.inr (.inr 38), .inl p1] s =
  u g_t169 6 ((u_l1 (u_l1 u_z1 1 p1) 2 (if (Int32.ofInt 0) < p1 then p1 else (Int32.ofInt 0))), u_z2, [(0, 38)]) [] s := (u_cE (t := g_t169) rfl _ _).trans ((u_E (5, 17, 5, 5) [6] 120 g_t169 0 _ _ _).trans rfl)
set_option maxRecDepth 4000 in
theorem b_169_6 (li : Nat → Int32) (ll : Nat → Int64) (s : u_H) : u g_t169 6 (li, ll, [(0, 38)]) [] s =
  if ((li 2) + (Int32.ofInt 1)) < (s.1 36 2) then
    u_bv (u_c 158 [.inr (.inr 38), .inl (li 2), .inl ((li 2) + (Int32.ofInt 1))] s) fun s1 =>
    u g_t169 6 ((u_l1 li 2 ((li 2) + (Int32.ofInt 1))), ll, [(0, 38)]) [] s1
  else
    some (none, s) := (u_E (5, 17, 5, 5) [6] 120 g_t169 6 _ _ _).trans rfl
/-! 170 GoodbyeQuay$Trial.settle(II)Z -/
set_option maxRecDepth 4000 in
theorem b_170 (p1 : Int32) (p2 : Int32) (s : u_H) : u_c 170 [.inr (.inr 38), .inl p1, .inl p2] s =
  u_bi (u_c 167 [.inr (.inr 38), .inl p1] s) fun x2 s1 =>
  if u_in p1 8 = true then
    if x2 < p2 then
      if x2 < p2 then
        some (some (.inl (Int32.ofInt 0)), ((y_u (y_u s1.1 44 (p1.toNatClampNeg) (if x2 < p2 then x2 else p2)) 36 17 ((s1.1 36 17) ||| ((Int32.ofInt 1) <<< (p1 &&& 31)))), s1.2))
      else
        some (some (.inl (Int32.ofInt 1)), ((y_u (y_u s1.1 44 (p1.toNatClampNeg) (if x2 < p2 then x2 else p2)) 36 17 ((s1.1 36 17) ||| ((Int32.ofInt 1) <<< (p1 &&& 31)))), s1.2))
    else
      if x2 < p2 then
        some (some (.inl (Int32.ofInt 0)), ((y_u (y_u s1.1 44 (p1.toNatClampNeg) (if x2 < p2 then x2 else p2)) 36 16 ((s1.1 36 16) ||| ((Int32.ofInt 1) <<< (p1 &&& 31)))), s1.2))
      else
        some (some (.inl (Int32.ofInt 1)), ((y_u (y_u s1.1 44 (p1.toNatClampNeg) (if x2 < p2 then x2 else p2)) 36 16 ((s1.1 36 16) ||| ((Int32.ofInt 1) <<< (p1 &&& 31)))), s1.2))
  else
    none := (u_cE (t := g_t170) rfl _ _).trans ((u_E (5, 17, 5, 5) [] 120 g_t170 0 _ _ _).trans rfl)
/-! 171 GoodbyeQuay$Trial.stepsIn(I)I -/
set_option maxRecDepth 4000 in
theorem b_171 (p1 : Int32) (s : u_H) : u_c 171 [.inr (.inr 38), .inl p1] s =
  if u_in p1 8 = true then
    if u_in p1 8 = true then
      if (s.1 43 (p1.toNatClampNeg)) < (s.1 44 (p1.toNatClampNeg)) then
        if u_in p1 8 = true then
          some (some (.inl ((s.1 43 (p1.toNatClampNeg)) - (s.1 36 14))), s)
        else
          none
      else
        some (some (.inl (u_k (-1))), s)
    else
      none
  else
    none := (u_cE (t := g_t171) rfl _ _).trans ((u_E (5, 17, 5, 5) [] 120 g_t171 0 _ _ _).trans rfl)
/-! 172 GoodbyeQuay$Trial.take(III)Z -/
set_option maxRecDepth 4000 in
theorem b_172 (p1 : Int32) (p2 : Int32) (p3 : Int32) (s : u_H) : u_c 172 [.inr (.inr 38), .inl p1, .inl p2, .inl p3] s =
  if u_in p2 3 = true then
    if u_in p1 8 = true then
      u_bi (u_c 167 [.inr (.inr 38), .inl p1] ((y_u s.1 43 (p1.toNatClampNeg) (s.1 42 (p2.toNatClampNeg))), s.2)) fun x2 s1 =>
      if (s.1 42 (p2.toNatClampNeg)) < x2 then
        u_bi (u_c 162 [.inr (.inr 38), .inl p1, .inl p3, .inl (s.1 42 (p2.toNatClampNeg))] s1) fun x4 s3 =>
        if 0 < (s3.1 36 8) then
          u_bi (u_c 50 [.inl (s3.1 36 9)] s3) fun x6 s5 =>
          u_bi (u_c 56 [.inl x6, .inl (s5.1 36 8)] ((y_u s5.1 36 9 x6), s5.2)) fun x8 s7 =>
          u g_t172 92 ((u_l1 (u_l1 (u_l1 (u_l1 (u_l1 (u_l1 u_z1 1 p1) 2 p2) 3 p3) 4 (s.1 42 (p2.toNatClampNeg))) 5 x4) 5 (x4 + x8)), u_z2, [(0, 38)]) [] s7
        else
          u g_t172 92 ((u_l1 (u_l1 (u_l1 (u_l1 (u_l1 u_z1 1 p1) 2 p2) 3 p3) 4 (s.1 42 (p2.toNatClampNeg))) 5 x4), u_z2, [(0, 38)]) [] s3
      else
        if u_in p1 8 = true then
          some (some (.inl (Int32.ofInt 0)), ((y_u (y_u s1.1 44 (p1.toNatClampNeg) (s.1 42 (p2.toNatClampNeg))) 36 17 ((s1.1 36 17) ||| ((Int32.ofInt 1) <<< (p1 &&& 31)))), s1.2))
        else
          none
    else
      none
  else
    none := (u_cE (t := g_t172) rfl _ _).trans ((u_E (5, 17, 5, 5) [92] 120 g_t172 0 _ _ _).trans rfl)
set_option maxRecDepth 4000 in
theorem b_172_92 (li : Nat → Int32) (ll : Nat → Int64) (s : u_H) : u g_t172 92 (li, ll, [(0, 38)]) [] s =
  u_bi (u_c 170 [.inr (.inr 38), .inl (li 1), .inl ((li 4) + (li 5))] s) fun x2 s1 =>
  if u_in (li 1) 8 = true then
    if u_in (li 2) 3 = true then
      if q_ib x2 = true then some (some (.inl x2), ((y_u s1.1 42 ((li 2).toNatClampNeg) (s1.1 44 ((li 1).toNatClampNeg))), s1.2)) else none
    else
      none
  else
    none := (u_E (5, 17, 5, 5) [92] 120 g_t172 92 _ _ _).trans rfl
/-! 174 GoodbyeQuayModel.about(I)I -/
set_option maxRecDepth 4000 in
theorem b_174 (p1 : Int32) (s : u_H) : u_c 174 [.inr (.inr 67), .inl p1] s =
  if p1 = (Int32.ofInt 0) then
    some (some (.inl (s.1 65 48)), s)
  else
    if p1 = (Int32.ofInt 1) then
      some (some (.inl (s.1 65 47)), s)
    else
      if p1 = (Int32.ofInt 2) then
        some (some (.inl (s.1 85 8)), s)
      else
        if p1 = (Int32.ofInt 3) then
          some (some (.inl (s.1 65 50)), s)
        else
          if p1 = (Int32.ofInt 4) then
            u_bi (u_c 221 [.inr (.inr 67), .inl (Int32.ofInt 2)] s) fun x2 s1 =>
            some (some (.inl x2), s1)
          else
            if p1 = (Int32.ofInt 5) then
              u_bi (u_c 221 [.inr (.inr 67), .inl (Int32.ofInt 3)] s) fun x4 s3 =>
              some (some (.inl x4), s3)
            else
              if p1 = (Int32.ofInt 6) then
                some (some (.inl (s.1 85 26)), s)
              else
                if p1 = (Int32.ofInt 7) then
                  some (some (.inl (s.1 85 27)), s)
                else
                  if p1 = (Int32.ofInt 8) then
                    some (some (.inl (s.1 65 66)), s)
                  else
                    if p1 = (Int32.ofInt 9) then
                      some (some (.inl (s.1 65 67)), s)
                    else
                      if p1 = (Int32.ofInt 10) then
                        some (some (.inl (s.1 65 78)), s)
                      else
                        if p1 = (Int32.ofInt 11) then
                          some (some (.inl (s.1 65 79)), s)
                        else
                          if p1 = (Int32.ofInt 12) then
                            some (some (.inl (s.1 65 1)), s)
                          else
                            if p1 = (Int32.ofInt 13) then
                              some (some (.inl (s.1 65 21)), s)
                            else
                              if p1 = (Int32.ofInt 14) then
                                some (some (.inl (s.1 65 70)), s)
                              else
                                if p1 = (Int32.ofInt 15) then
                                  some (some (.inl (s.1 65 49)), s)
                                else
                                  if p1 = (Int32.ofInt 16) then
                                    some (some (.inl (s.1 65 51)), s)
                                  else
                                    some (some (.inl (u_k (-1))), s) := (u_cE (t := g_t174) rfl _ _).trans ((u_E (5, 17, 5, 5) [] 120 g_t174 0 _ _ _).trans rfl)
/-! 175 GoodbyeQuayModel.act()V -/
set_option maxRecDepth 4000 in
theorem b_175 (s : u_H) : u_c 175 [.inr (.inr 67)] s =
  if (s.1 65 66) = (Int32.ofInt 40) then
    u g_t175 11 ((u_l1 u_z1 1 (Int32.ofInt 0)), u_z2, [(0, 67)]) [] s
  else
    u g_t175 51 ((u_l1 u_z1 1 (Int32.ofInt 0)), u_z2, [(0, 67)]) [] s := (u_cE (t := g_t175) rfl _ _).trans ((u_E (5, 17, 5, 5) [11, 51] 120 g_t175 0 _ _ _).trans rfl)
set_option maxRecDepth 4000 in
theorem b_175_11 (li : Nat → Int32) (ll : Nat → Int64) (s : u_H) : u g_t175 11 (li, ll, [(0, 67)]) [] s =
  if (li 1) < (u_k 1092) then
    if u_in ((Int32.ofInt 28) + (li 1)) 1120 = true then
      if u_in (li 1) 1120 = true then
        u g_t175 11 ((u_l1 li 1 ((li 1) + (Int32.ofInt 1))), ll, [(0, 67)]) [] ((y_u s.1 91 ((li 1).toNatClampNeg) (s.1 91 (((Int32.ofInt 28) + (li 1)).toNatClampNeg))), s.2)
      else
        none
    else
      none
  else
    u g_t175 51 ((u_l1 li 1 (Int32.ofInt 0)), ll, [(0, 67)]) [] ((y_u s.1 65 66 ((s.1 65 66) - (Int32.ofInt 1))), s.2) := (u_E (5, 17, 5, 5) [11, 51] 120 g_t175 11 _ _ _).trans rfl
set_option maxRecDepth 4000 in
theorem b_175_51 (li : Nat → Int32) (ll : Nat → Int64) (s : u_H) : u g_t175 51 (li, ll, [(0, 67)]) [] s =
  if (li 1) < (Int32.ofInt 28) then
    if u_in (li 1) 28 = true then
      if u_in (((Int32.ofInt 28) * (s.1 65 66)) + (li 1)) 1120 = true then
        u g_t175 51 ((u_l1 li 1 ((li 1) + (Int32.ofInt 1))), ll, [(0, 67)]) [] ((y_u s.1 91 ((((Int32.ofInt 28) * (s.1 65 66)) + (li 1)).toNatClampNeg) (s.1 85 ((li 1).toNatClampNeg))), s.2)
      else
        none
    else
      none
  else
    u_bv (u_c 203 [.inr (.inr 67)] ((y_u (y_u s.1 65 66 ((s.1 65 66) + (Int32.ofInt 1))) 65 67 (Int32.ofInt 0)), s.2)) fun s1 =>
    some (none, s1) := (u_E (5, 17, 5, 5) [11, 51] 120 g_t175 51 _ _ _).trans rfl
/-! 176 GoodbyeQuayModel.add(II)V -/
set_option maxRecDepth 4000 in
theorem b_176 (p1 : Int32) (p2 : Int32) (s : u_H) : u_c 176 [.inr (.inr 67), .inl p1, .inl p2] s =
  if u_in (s.1 65 17) 320 = true then
    if u_in (s.1 65 17) 320 = true then
      some (none, ((y_u (y_u (y_u s.1 68 ((s.1 65 17).toNatClampNeg) p1) 69 ((s.1 65 17).toNatClampNeg) p2) 65 17 ((s.1 65 17) + (Int32.ofInt 1))), s.2))
    else
      none
  else
    none := (u_cE (t := g_t176) rfl _ _).trans ((u_E (5, 17, 5, 5) [] 120 g_t176 0 _ _ _).trans rfl)
/-! 177 GoodbyeQuayModel.asTold()V -/
set_option maxRecDepth 4000 in
theorem b_177 (s : u_H) : u_c 177 [.inr (.inr 67)] s =
  u g_t177 28 ((u_l1 u_z1 1 (Int32.ofInt 0)), u_z2, [(0, 67)]) [] ((y_u (y_u (y_u (y_u s.1 65 27 (s.1 65 49)) 65 28 (s.1 65 50)) 65 29 (u_k (-1))) 65 59 (Int32.ofInt 0)), s.2) := (u_cE (t := g_t177) rfl _ _).trans ((u_E (5, 17, 5, 5) [28, 55] 120 g_t177 0 _ _ _).trans rfl)
set_option maxRecDepth 4000 in
theorem b_177_28 (li : Nat → Int32) (ll : Nat → Int64) (s : u_H) : u g_t177 28 (li, ll, [(0, 67)]) [] s =
  if (li 1) < (Int32.ofInt 3) then
    if u_in (li 1) 3 = true then
      if u_in (li 1) 3 = true then
        u g_t177 28 ((u_l1 li 1 ((li 1) + (Int32.ofInt 1))), ll, [(0, 67)]) [] ((y_u (y_u s.1 87 ((li 1).toNatClampNeg) (Int32.ofInt 0)) 88 ((li 1).toNatClampNeg) (Int32.ofInt 0)), s.2)
      else
        none
    else
      none
  else
    u g_t177 55 ((u_l1 li 1 (Int32.ofInt 0)), ll, [(0, 67)]) [] s := (u_E (5, 17, 5, 5) [28, 55] 120 g_t177 28 _ _ _).trans rfl
set_option maxRecDepth 4000 in
theorem b_177_55 (li : Nat → Int32) (ll : Nat → Int64) (s : u_H) : u g_t177 55 (li, ll, [(0, 67)]) [] s =
  if (Int32.ofInt 7) < (li 1) then
    some (none, ((y_u s.1 65 62 (Int32.ofInt 0)), s.2))
  else
    if u_in (li 1) 8 = true then
      if u_in (li 1) 8 = true then
        u g_t177 55 ((u_l1 li 1 ((li 1) + (Int32.ofInt 1))), ll, [(0, 67)]) [] ((y_u (y_u s.1 89 ((li 1).toNatClampNeg) (u_k (-1))) 90 ((li 1).toNatClampNeg) (u_k (-1))), s.2)
      else
        none
    else
      none := (u_E (5, 17, 5, 5) [28, 55] 120 g_t177 55 _ _ _).trans rfl
/-! 178 GoodbyeQuayModel.aside(I)I -/
set_option maxRecDepth 4000 in
theorem b_178 (p1 : Int32) (s : u_H) : u_c 178 [.inr (.inr 67), .inl p1] s =
  u_bi (u_c 230 [.inl p1, .inl (Int32.ofInt 0), .inl (Int32.ofInt 1)] s) fun x2 s1 =>
  if x2 = 0 then
    some (some (.inl (u_k (-1))), s1)
  else
    u g_t178 18 ((u_l1 (u_l1 (u_l1 (u_l1 u_z1 1 p1) 2 (u_k (-1))) 3 (u_k (-1))) 4 (Int32.ofInt 0)), u_z2, [(0, 67)]) [] s1 := (u_cE (t := g_t178) rfl _ _).trans ((u_E (5, 17, 5, 5) [18] 120 g_t178 0 _ _ _).trans rfl)
set_option maxRecDepth 4000 in
theorem b_178_18 (li : Nat → Int32) (ll : Nat → Int64) (s : u_H) : u g_t178 18 (li, ll, [(0, 67)]) [] s =
  if (li 4) < (s.1 65 48) then
    u_bi (u_c 235 [.inr (.inr 67), .inl (li 4)] s) fun x2 s1 =>
    if x2 = 0 then
      u g_t178 18 ((u_l1 li 4 ((li 4) + (Int32.ofInt 1))), ll, [(0, 67)]) [] s1
    else
      u_bv (u_c 203 [.inr (.inr 67)] s1) fun s3 =>
      u_bi (u_c 272 [.inr (.inr 67), .inl (li 4)] s3) fun x5 s4 =>
      u_bi (u_c 307 [.inr (.inr 67), .inl x5] s4) fun x7 s6 =>
      u_bv (u_c 274 [.inr (.inr 67), .inl x7] s6) fun s8 =>
      u_bi (u_c 189 [.inr (.inr 67)] s8) fun x10 s9 =>
      if (li 3) < x10 then
        u g_t178 18 ((u_l1 (u_l1 (u_l1 (u_l1 li 5 x10) 2 (li 4)) 3 x10) 4 ((li 4) + (Int32.ofInt 1))), ll, [(0, 67)]) [] s9
      else
        u g_t178 18 ((u_l1 (u_l1 li 5 x10) 4 ((li 4) + (Int32.ofInt 1))), ll, [(0, 67)]) [] s9
  else
    if (li 1) = 0 then
      some (some (.inl (li 2)), s)
    else
      some (some (.inl (li 3)), s) := (u_E (5, 17, 5, 5) [18] 120 g_t178 18 _ _ _).trans rfl
/-! 179 GoodbyeQuayModel.ask(II)I -/
set_option maxRecDepth 4000 in
theorem b_179 (p1 : Int32) (p2 : Int32) (s : u_H) : u_c 179 [.inr (.inr 67), .inl p1, .inl p2] s =
  u_bi (u_c 230 [.inl p1, .inl (Int32.ofInt 0), .inl (Int32.ofInt 1)] s) fun x2 s1 =>
  if x2 = 0 then
    some (some (.inl (u_k (-1))), s1)
  else
    u_bi (u_c 244 [.inr (.inr 67), .inl p2] s1) fun x4 s3 =>
    if x4 = 0 then
      some (some (.inl (u_k (-1))), s3)
    else
      u g_t179 24 ((u_l1 (u_l1 (u_l1 (u_l1 u_z1 1 p1) 2 p2) 3 (Int32.ofInt 0)) 4 (Int32.ofInt 1)), u_z2, [(0, 67)]) [] s3 := (u_cE (t := g_t179) rfl _ _).trans ((u_E (5, 17, 5, 5) [24] 120 g_t179 0 _ _ _).trans rfl)
set_option maxRecDepth 4000 in
theorem b_179_24 (li : Nat → Int32) (ll : Nat → Int64) (s : u_H) : u g_t179 24 (li, ll, [(0, 67)]) [] s =
  if (Int32.ofInt 60) < (li 4) then
    if (li 1) = 0 then
      some (some (.inl (li 3)), s)
    else
      u_bi (u_c 247 [.inr (.inr 67), .inl (li 3)] s) fun x2 s1 =>
      some (some (.inl x2), s1)
  else
    u_bi (u_c 247 [.inr (.inr 67), .inl (li 4)] s) fun x4 s3 =>
    u_bi (u_c 247 [.inr (.inr 67), .inl (li 3)] s3) fun x6 s5 =>
    if x4 < x6 then
      u g_t179 24 ((u_l1 (u_l1 li 3 (li 4)) 4 ((li 4) + (Int32.ofInt 1))), ll, [(0, 67)]) [] s5
    else
      u g_t179 24 ((u_l1 (u_l1 li 3 (li 3)) 4 ((li 4) + (Int32.ofInt 1))), ll, [(0, 67)]) [] s5 := (u_E (5, 17, 5, 5) [24] 120 g_t179 24 _ _ _).trans rfl
/-! 180 GoodbyeQuayModel.asked()I -/
set_option maxRecDepth 4000 in
theorem b_180 (s : u_H) : u_c 180 [.inr (.inr 67)] s =
  if (s.1 65 6) = (Int32.ofInt 1) then
    if (lg_cmp (s.2.1 65 9) (u_k6 474147546227)) = 0 then
      some (some (.inl (Int32.ofInt 0)), s)
    else
      if (lg_cmp (s.2.1 65 9) (u_k6 1819244133)) = 0 then
        some (some (.inl (Int32.ofInt 1)), s)
      else
        if (lg_cmp (s.2.1 65 9) (u_k6 109356099333997)) = 0 then
          some (some (.inl (Int32.ofInt 2)), s)
        else
          if (lg_cmp (s.2.1 65 9) (u_k6 108187682958948)) = 0 then
            some (some (.inl (Int32.ofInt 3)), s)
          else
            if (lg_cmp (s.2.1 65 9) (u_k6 1818584692)) = 0 then
              some (some (.inl (Int32.ofInt 4)), s)
            else
              if (lg_cmp (s.2.1 65 9) (u_k6 120299592184933)) = 0 then
                some (some (.inl (Int32.ofInt 5)), s)
              else
                some (some (.inl (u_k (-1))), s)
  else
    some (some (.inl (u_k (-1))), s) := (u_cE (t := g_t180) rfl _ _).trans ((u_E (5, 17, 5, 5) [] 120 g_t180 0 _ _ _).trans rfl)
/-! 181 GoodbyeQuayModel.await(I)I -/
set_option maxRecDepth 4000 in
theorem b_181 (p1 : Int32) (s : u_H) : u_c 181 [.inr (.inr 67), .inl p1] s =
  u_bv (u_c 203 [.inr (.inr 67)] s) fun s1 =>
  u_bi (u_c 236 [.inr (.inr 67), .inl p1] s1) fun x3 s2 =>
  if x3 = 0 then
    some (some (.inl (u_k (-1))), s2)
  else
    u_bi (u_c 216 [.inl (s2.1 85 24), .inl p1] s2) fun x5 s4 =>
    if x5 = 0 then
      u_bi (u_c 229 [.inr (.inr 67), .inl p1] s4) fun x7 s6 =>
      if x7 = 0 then
        u_bv (u_c 175 [.inr (.inr 67)] s6) fun s8 =>
        u_bv (u_c 203 [.inr (.inr 67)] ((y_u s8.1 85 24 ((s8.1 85 24) ||| ((Int32.ofInt 1) <<< (p1 &&& 31)))), s8.2)) fun s9 =>
        u_bi (u_c 291 [.inr (.inr 67), .inl p1] s9) fun x11 s10 =>
        some (some (.inl x11), s10)
      else
        some (some (.inl (u_k (-1))), s6)
    else
      some (some (.inl (u_k (-1))), s4) := (u_cE (t := g_t181) rfl _ _).trans ((u_E (5, 17, 5, 5) [] 120 g_t181 0 _ _ _).trans rfl)
/-! 182 GoodbyeQuayModel.back(I)I -/
set_option maxRecDepth 4000 in
theorem b_182 (p1 : Int32) (s : u_H) : u_c 182 [.inr (.inr 67), .inl p1] s =
  u_bi (u_c 224 [.inl p1] s) fun x2 s1 =>
  if x2 = 0 then
    some (some (.inl (u_k (-1))), s1)
  else
    if u_in p1 3 = true then
      if (s1.1 104 (p1.toNatClampNeg)) = 0 then
        some (some (.inl (u_k (-1))), s1)
      else
        u g_t182 20 ((u_l1 (u_l1 u_z1 1 p1) 2 (Int32.ofInt 0)), u_z2, [(0, 67)]) [] s1
    else
      none := (u_cE (t := g_t182) rfl _ _).trans ((u_E (5, 17, 5, 5) [20] 120 g_t182 0 _ _ _).trans rfl)
set_option maxRecDepth 4000 in
theorem b_182_20 (li : Nat → Int32) (ll : Nat → Int64) (s : u_H) : u g_t182 20 (li, ll, [(0, 67)]) [] s =
  if (li 2) < (Int32.ofInt 28) then
    if u_in (((Int32.ofInt 28) * (li 1)) + (li 2)) 84 = true then
      if u_in (li 2) 28 = true then
        u g_t182 20 ((u_l1 li 2 ((li 2) + (Int32.ofInt 1))), ll, [(0, 67)]) [] ((y_u s.1 85 ((li 2).toNatClampNeg) (s.1 105 ((((Int32.ofInt 28) * (li 1)) + (li 2)).toNatClampNeg))), s.2)
      else
        none
    else
      none
  else
    some (some (.inl (s.1 85 26)), ((y_u (y_u s.1 65 66 (Int32.ofInt 0)) 65 67 (Int32.ofInt 0)), s.2)) := (u_E (5, 17, 5, 5) [20] 120 g_t182 20 _ _ _).trans rfl
/-! 183 GoodbyeQuayModel.bestOrder(I)I -/
set_option maxRecDepth 4000 in
theorem b_183 (p1 : Int32) (s : u_H) : u_c 183 [.inr (.inr 67), .inl p1] s =
  u g_t183 4 ((u_l1 (u_l1 (u_l1 u_z1 1 p1) 2 (Int32.ofInt 0)) 3 (Int32.ofInt 0)), u_z2, [(0, 67)]) [] s := (u_cE (t := g_t183) rfl _ _).trans ((u_E (5, 17, 5, 5) [4, 44, 56, 97, 111] 120 g_t183 0 _ _ _).trans rfl)
set_option maxRecDepth 4000 in
theorem b_183_4 (li : Nat → Int32) (ll : Nat → Int64) (s : u_H) : u g_t183 4 (li, ll, [(0, 67)]) [] s =
  if (li 3) < (s.1 65 48) then
    u_bi (u_c 235 [.inr (.inr 67), .inl (li 3)] s) fun x2 s1 =>
    if x2 = 0 then
      u g_t183 4 ((u_l1 li 3 ((li 3) + (Int32.ofInt 1))), ll, [(0, 67)]) [] s1
    else
      if u_in (li 2) 7 = true then
        u g_t183 4 ((u_l1 (u_l1 li 2 ((li 2) + (Int32.ofInt 1))) 3 ((li 3) + (Int32.ofInt 1))), ll, [(0, 67)]) [] ((y_u s1.1 93 ((li 2).toNatClampNeg) (li 3)), s1.2)
      else
        none
  else
    u g_t183 44 ((u_l1 (u_l1 li 3 (u_k (-1))) 4 (Int32.ofInt 1)), ll, [(0, 67)]) [] s := (u_E (5, 17, 5, 5) [4, 44, 56, 97, 111] 120 g_t183 4 _ _ _).trans rfl
set_option maxRecDepth 4000 in
theorem b_183_44 (li : Nat → Int32) (ll : Nat → Int64) (s : u_H) : u g_t183 44 (li, ll, [(0, 67)]) [] s =
  if (li 4) = 0 then
    some (some (.inl (li 3)), ((y_u s.1 65 70 (li 2)), s.2))
  else
    u_bv (u_c 203 [.inr (.inr 67)] s) fun s1 =>
    u g_t183 56 ((u_l1 li 5 (Int32.ofInt 0)), ll, [(0, 67)]) [] s1 := (u_E (5, 17, 5, 5) [4, 44, 56, 97, 111] 120 g_t183 44 _ _ _).trans rfl
set_option maxRecDepth 4000 in
theorem b_183_56 (li : Nat → Int32) (ll : Nat → Int64) (s : u_H) : u g_t183 56 (li, ll, [(0, 67)]) [] s =
  if (li 5) < (li 2) then
    if u_in (li 5) 7 = true then
      if u_in (li 5) 28 = true then
        u g_t183 56 ((u_l1 li 5 ((li 5) + (Int32.ofInt 1))), ll, [(0, 67)]) [] ((y_u s.1 86 ((li 5).toNatClampNeg) (s.1 93 ((li 5).toNatClampNeg))), s.2)
      else
        none
    else
      none
  else
    if (li 1) = 0 then
      u_bi (u_c 189 [.inr (.inr 67)] s) fun x2 s1 =>
      u g_t183 97 (li, ll, [(0, 67)]) [.inl x2] s1
    else
      u_bi (u_c 256 [.inr (.inr 67)] s) fun x4 s3 =>
      u g_t183 97 (li, ll, [(0, 67)]) [.inl x4] s3 := (u_E (5, 17, 5, 5) [4, 44, 56, 97, 111] 120 g_t183 56 _ _ _).trans rfl
set_option maxRecDepth 4000 in
theorem b_183_97 (v0 : Int32) (li : Nat → Int32) (ll : Nat → Int64) (s : u_H) : u g_t183 97 (li, ll, [(0, 67)]) [.inl v0] s =
  if (li 3) < v0 then
    u g_t183 111 ((u_l1 (u_l1 (u_l1 li 5 v0) 3 v0) 6 (Int32.ofInt 0)), ll, [(0, 67)]) [] s
  else
    u_bi (u_c 264 [.inr (.inr 67), .inl (li 2)] s) fun x2 s1 =>
    u g_t183 44 ((u_l1 (u_l1 li 5 v0) 4 x2), ll, [(0, 67)]) [] s1 := (u_E (5, 17, 5, 5) [4, 44, 56, 97, 111] 120 g_t183 97 _ _ _).trans rfl
set_option maxRecDepth 4000 in
theorem b_183_111 (li : Nat → Int32) (ll : Nat → Int64) (s : u_H) : u g_t183 111 (li, ll, [(0, 67)]) [] s =
  if (li 6) < (li 2) then
    if u_in (li 6) 7 = true then
      if u_in (li 6) 7 = true then
        u g_t183 111 ((u_l1 li 6 ((li 6) + (Int32.ofInt 1))), ll, [(0, 67)]) [] ((y_u s.1 92 ((li 6).toNatClampNeg) (s.1 93 ((li 6).toNatClampNeg))), s.2)
      else
        none
    else
      none
  else
    u_bi (u_c 264 [.inr (.inr 67), .inl (li 2)] s) fun x2 s1 =>
    u g_t183 44 ((u_l1 li 4 x2), ll, [(0, 67)]) [] s1 := (u_E (5, 17, 5, 5) [4, 44, 56, 97, 111] 120 g_t183 111 _ _ _).trans rfl
/-! 184 GoodbyeQuayModel.blame(II)I -/
set_option maxRecDepth 4000 in
theorem b_184 (p1 : Int32) (p2 : Int32) (s : u_H) : u_c 184 [.inr (.inr 67), .inl p1, .inl p2] s =
  u_bi (u_c 235 [.inr (.inr 67), .inl p1] s) fun x2 s1 =>
  if x2 = 0 then
    some (some (.inl (u_k (-1000))), s1)
  else
    u_bi (u_c 230 [.inl p2, .inl (Int32.ofInt 0), .inl (Int32.ofInt 1)] s1) fun x4 s3 =>
    if x4 = 0 then
      some (some (.inl (u_k (-1000))), s3)
    else
      u_bi (u_c 278 [.inr (.inr 67)] s3) fun x6 s5 =>
      u g_t184 32 ((u_l1 (u_l1 (u_l1 (u_l1 (u_l1 u_z1 1 p1) 2 p2) 3 x6) 4 (Int32.ofInt 0)) 5 (Int32.ofInt 0)), u_z2, [(0, 67)]) [] s5 := (u_cE (t := g_t184) rfl _ _).trans ((u_E (5, 17, 5, 5) [32] 120 g_t184 0 _ _ _).trans rfl)
set_option maxRecDepth 4000 in
theorem b_184_32 (li : Nat → Int32) (ll : Nat → Int64) (s : u_H) : u g_t184 32 (li, ll, [(0, 67)]) [] s =
  if (li 3) < (li 5) then
    u_bi (u_c 259 [.inl (li 3)] s) fun x2 s1 =>
    u_bi (u_c 270 [.inl x2] s1) fun x4 s3 =>
    u_bi (u_c 194 [.inl x4, .inl (li 4)] s3) fun x6 s5 =>
    if (li 2) = 0 then
      if x6 = 0 then
        none
      else
        some (some (.inl ((li 4) / x6)), s5)
    else
      if x6 = 0 then
        none
      else
        some (some (.inl (x4 / x6)), s5)
  else
    if ((li 5) &&& ((li 3) ^^^ (u_k (-1)))) = 0 then
      u_bi (u_c 216 [.inl (li 5), .inl (li 1)] s) fun x8 s7 =>
      if x8 = 0 then
        u_bi (u_c 259 [.inl (li 5)] s7) fun x10 s9 =>
        u_bi (u_c 270 [.inl x10] s9) fun x12 s11 =>
        u_bi (u_c 259 [.inl (li 3)] s11) fun x14 s13 =>
        u_bi (u_c 259 [.inl (li 5)] s13) fun x16 s15 =>
        u_bi (u_c 270 [.inl ((x14 - (Int32.ofInt 1)) - x16)] s15) fun x18 s17 =>
        u_bi (u_c 190 [.inr (.inr 67), .inl ((li 5) ||| ((Int32.ofInt 1) <<< ((li 1) &&& 31)))] s17) fun x20 s19 =>
        u_bi (u_c 190 [.inr (.inr 67), .inl (li 5)] s19) fun x22 s21 =>
        u g_t184 32 ((u_l1 (u_l1 (u_l1 li 6 (x12 * x18)) 4 ((li 4) + ((x12 * x18) * (x20 - x22)))) 5 ((li 5) + (Int32.ofInt 1))), ll, [(0, 67)]) [] s21
      else
        u g_t184 32 ((u_l1 li 5 ((li 5) + (Int32.ofInt 1))), ll, [(0, 67)]) [] s7
    else
      u g_t184 32 ((u_l1 li 5 ((li 5) + (Int32.ofInt 1))), ll, [(0, 67)]) [] s := (u_E (5, 17, 5, 5) [32] 120 g_t184 32 _ _ _).trans rfl
/-! 185 GoodbyeQuayModel.change(II)I -/
set_option maxRecDepth 4000 in
theorem b_185 (p1 : Int32) (p2 : Int32) (s : u_H) : u_c 185 [.inr (.inr 67), .inl p1, .inl p2] s =
  u_bi (u_c 235 [.inr (.inr 67), .inl p1] s) fun x2 s1 =>
  if x2 = 0 then
    some (some (.inl (u_k (-1))), s1)
  else
    u_bi (u_c 235 [.inr (.inr 67), .inl p2] s1) fun x4 s3 =>
    if x4 = 0 then
      some (some (.inl (u_k (-1))), s3)
    else
      if p1 = p2 then
        some (some (.inl (u_k (-1))), s3)
      else
        u_bv (u_c 175 [.inr (.inr 67)] s3) fun s5 =>
        u_bv (u_c 186 [.inr (.inr 67), .inl p1, .inl p2] s5) fun s6 =>
        u_bv (u_c 240 [.inr (.inr 67)] s6) fun s7 =>
        u_bi (u_c 188 [.inr (.inr 67)] s7) fun x9 s8 =>
        some (some (.inl x9), s8) := (u_cE (t := g_t185) rfl _ _).trans ((u_E (5, 17, 5, 5) [] 120 g_t185 0 _ _ _).trans rfl)
/-! 186 GoodbyeQuayModel.changes(II)V -/
set_option maxRecDepth 4000 in
theorem b_186 (p1 : Int32) (p2 : Int32) (s : u_H) : u_c 186 [.inr (.inr 67), .inl p1, .inl p2] s =
  u_bi (u_c 272 [.inr (.inr 67), .inl p1] s) fun x2 s1 =>
  u_bi (u_c 272 [.inr (.inr 67), .inl p2] s1) fun x4 s3 =>
  if u_in x2 28 = true then
    if u_in x4 28 = true then
      some (none, ((y_u (y_u s3.1 86 (x2.toNatClampNeg) p2) 86 (x4.toNatClampNeg) p1), s3.2))
    else
      none
  else
    none := (u_cE (t := g_t186) rfl _ _).trans ((u_E (5, 17, 5, 5) [] 120 g_t186 0 _ _ _).trans rfl)
/-! 187 GoodbyeQuayModel.close(I)V -/
set_option maxRecDepth 4000 in
theorem b_187 (p1 : Int32) (s : u_H) : u_c 187 [.inr (.inr 67), .inl p1] s =
  u g_t187 0 ((u_l1 u_z1 1 p1), u_z2, [(0, 67)]) [] s := u_cE (t := g_t187) rfl _ _
set_option maxRecDepth 4000 in
theorem b_187_0 (li : Nat → Int32) (ll : Nat → Int64) (s : u_H) : u g_t187 0 (li, ll, [(0, 67)]) [] s =
  if 0 < (s.1 65 19) then
    if u_in ((s.1 65 19) - (Int32.ofInt 1)) 160 = true then
      if (s.1 72 (((s.1 65 19) - (Int32.ofInt 1)).toNatClampNeg)) = (Int32.ofInt 20) then
        some (none, s)
      else
        if u_in ((s.1 65 19) - (Int32.ofInt 1)) 160 = true then
          u_bi (u_c 308 [.inl (s.1 72 (((s.1 65 19) - (Int32.ofInt 1)).toNatClampNeg))] s) fun x2 s1 =>
          if x2 < (li 1) then
            some (none, s1)
          else
            if u_in ((s1.1 65 19) - (Int32.ofInt 1)) 160 = true then
              if (s1.1 72 (((s1.1 65 19) - (Int32.ofInt 1)).toNatClampNeg)) = (Int32.ofInt 21) then
                u_bv (u_c 176 [.inr (.inr 67), .inl (Int32.ofInt 2), .inl (Int32.ofInt 0)] ((y_u s1.1 65 19 ((s1.1 65 19) - (Int32.ofInt 1))), s1.2)) fun s3 =>
                u g_t187 0 (li, ll, [(0, 67)]) [] ((y_u s3.1 65 23 ((s3.1 65 23) - (Int32.ofInt 1))), s3.2)
              else
                if u_in ((s1.1 65 19) - (Int32.ofInt 1)) 160 = true then
                  u_bv (u_c 176 [.inr (.inr 67), .inl (Int32.ofInt 3), .inl (s1.1 72 (((s1.1 65 19) - (Int32.ofInt 1)).toNatClampNeg))] ((y_u s1.1 65 19 ((s1.1 65 19) - (Int32.ofInt 1))), s1.2)) fun s4 =>
                  u g_t187 0 (li, ll, [(0, 67)]) [] s4
                else
                  none
            else
              none
        else
          none
    else
      none
  else
    some (none, s) := (u_E (5, 17, 5, 5) [0] 120 g_t187 0 _ _ _).trans rfl
/-! 188 GoodbyeQuayModel.count()I -/
set_option maxRecDepth 4000 in
theorem b_188 (s : u_H) : u_c 188 [.inr (.inr 67)] s =
  u_bv (u_c 203 [.inr (.inr 67)] s) fun s1 =>
  u_bi (u_c 189 [.inr (.inr 67)] s1) fun x3 s2 =>
  some (some (.inl x3), s2) := (u_cE (t := g_t188) rfl _ _).trans ((u_E (5, 17, 5, 5) [] 120 g_t188 0 _ _ _).trans rfl)
/-! 189 GoodbyeQuayModel.countHere()I -/
set_option maxRecDepth 4000 in
theorem b_189 (s : u_H) : u_c 189 [.inr (.inr 67)] s =
  u_bv (u_c 213 [.inr (.inr 67)] s) fun s1 =>
  u_bi (u_c 290 [.inr (.inr 67)] s1) fun x3 s2 =>
  u_bi (u_c 259 [.inl x3] s2) fun x5 s4 =>
  some (some (.inl x5), s4) := (u_cE (t := g_t189) rfl _ _).trans ((u_E (5, 17, 5, 5) [] 120 g_t189 0 _ _ _).trans rfl)
/-! 190 GoodbyeQuayModel.countOnly(I)I -/
set_option maxRecDepth 4000 in
theorem b_190 (p1 : Int32) (s : u_H) : u_c 190 [.inr (.inr 67), .inl p1] s =
  u_bv (u_c 203 [.inr (.inr 67)] s) fun s1 =>
  u_bv (u_c 246 [.inr (.inr 67), .inl p1] s1) fun s2 =>
  u_bi (u_c 189 [.inr (.inr 67)] s2) fun x4 s3 =>
  some (some (.inl x4), s3) := (u_cE (t := g_t190) rfl _ _).trans ((u_E (5, 17, 5, 5) [] 120 g_t190 0 _ _ _).trans rfl)
/-! 191 GoodbyeQuayModel.countUnit()V -/
set_option maxRecDepth 4000 in
theorem b_191 (s : u_H) : u_c 191 [.inr (.inr 67)] s =
  some (none, ((y_u (y_u s.1 65 20 ((s.1 65 20) + (Int32.ofInt 1))) 65 22 ((s.1 65 22) + (Int32.ofInt 1))), s.2)) := (u_cE (t := g_t191) rfl _ _).trans ((u_E (5, 17, 5, 5) [] 120 g_t191 0 _ _ _).trans rfl)
/-! 192 GoodbyeQuayModel.dearest()I -/
set_option maxRecDepth 4000 in
theorem b_192 (s : u_H) : u_c 192 [.inr (.inr 67)] s =
  u_bi (u_c 183 [.inr (.inr 67), .inl (Int32.ofInt 1)] s) fun x2 s1 =>
  some (some (.inl x2), s1) := (u_cE (t := g_t192) rfl _ _).trans ((u_E (5, 17, 5, 5) [] 120 g_t192 0 _ _ _).trans rfl)
/-! 193 GoodbyeQuayModel.delay(II)I -/
set_option maxRecDepth 4000 in
theorem b_193 (p1 : Int32) (p2 : Int32) (s : u_H) : u_c 193 [.inr (.inr 67), .inl p1, .inl p2] s =
  u_bi (u_c 234 [.inr (.inr 67), .inl p1] s) fun x2 s1 =>
  if x2 = 0 then
    some (some (.inl (u_k (-1))), s1)
  else
    u_bi (u_c 235 [.inr (.inr 67), .inl p2] s1) fun x4 s3 =>
    if x4 = 0 then
      some (some (.inl (u_k (-1))), s3)
    else
      if p1 = p2 then
        some (some (.inl (u_k (-1))), s3)
      else
        u_bi (u_c 293 [.inr (.inr 67), .inl p1] s3) fun x6 s5 =>
        u_bi (u_c 294 [.inr (.inr 67), .inl p1, .inl p2] s5) fun x8 s7 =>
        if x8 = (u_kv 1000000) then
          some (some (.inl (Int32.ofInt 0)), s7)
        else
          if x6 = (u_kv 1000000) then
            some (some (.inl (Int32.ofInt 60)), s7)
          else
            some (some (.inl (x6 - x8)), s7) := (u_cE (t := g_t193) rfl _ _).trans ((u_E (5, 17, 5, 5) [] 120 g_t193 0 _ _ _).trans rfl)
/-! 194 GoodbyeQuayModel.divisor(II)I -/
set_option maxRecDepth 4000 in
theorem b_194 (p1 : Int32) (p2 : Int32) (s : u_H) : u_c 194 [.inl p1, .inl p2] s =
  if p1 < 0 then
    if p2 < 0 then
      u g_t194 22 ((u_l1 (u_l1 (u_l1 (u_l1 u_z1 0 p1) 1 p2) 2 (-p1)) 3 (-p2)), u_z2, []) [] s
    else
      u g_t194 22 ((u_l1 (u_l1 (u_l1 (u_l1 u_z1 0 p1) 1 p2) 2 (-p1)) 3 p2), u_z2, []) [] s
  else
    if p2 < 0 then
      u g_t194 22 ((u_l1 (u_l1 (u_l1 (u_l1 u_z1 0 p1) 1 p2) 2 p1) 3 (-p2)), u_z2, []) [] s
    else
      u g_t194 22 ((u_l1 (u_l1 (u_l1 (u_l1 u_z1 0 p1) 1 p2) 2 p1) 3 p2), u_z2, []) [] s := (u_cE (t := g_t194) rfl _ _).trans ((u_E (5, 17, 5, 5) [22] 120 g_t194 0 _ _ _).trans rfl)
set_option maxRecDepth 4000 in
theorem b_194_22 (li : Nat → Int32) (ll : Nat → Int64) (s : u_H) : u g_t194 22 (li, ll, []) [] s =
  if 0 < (li 3) then
    if (li 3) = 0 then
      none
    else
      u g_t194 22 ((u_l1 (u_l1 (u_l1 li 4 ((li 2) - (li 2) / (li 3) * (li 3))) 2 (li 3)) 3 ((li 2) - (li 2) / (li 3) * (li 3))), ll, []) [] s
  else
    some (some (.inl (li 2)), s) := (u_E (5, 17, 5, 5) [22] 120 g_t194 22 _ _ _).trans rfl
/-! 195 GoodbyeQuayModel.doAllSay(I)Z -/
set_option maxRecDepth 4000 in
theorem b_195 (p1 : Int32) (s : u_H) : u_c 195 [.inr (.inr 67), .inl p1] s =
  u_bv (u_c 213 [.inr (.inr 67)] s) fun s1 =>
  u_bi (u_c 290 [.inr (.inr 67)] s1) fun x3 s2 =>
  if (p1 &&& (x3 ^^^ (u_k (-1)))) = 0 then
    some (some (.inl (Int32.ofInt 1)), s2)
  else
    some (some (.inl (Int32.ofInt 0)), s2) := (u_cE (t := g_t195) rfl _ _).trans ((u_E (5, 17, 5, 5) [] 120 g_t195 0 _ _ _).trans rfl)
/-! 196 GoodbyeQuayModel.done(III)I -/
set_option maxRecDepth 4000 in
theorem b_196 (p1 : Int32) (p2 : Int32) (p3 : Int32) (s : u_H) : u_c 196 [.inl p1, .inl p2, .inl p3] s =
  if p1 = (Int32.ofInt 37) then
    if p3 = 0 then
      some (some (.inl (Int32.ofInt 0)), s)
    else
      if p3 = 0 then
        none
      else
        some (some (.inl (p2 - p2 / p3 * p3)), s)
  else
    if p1 = (Int32.ofInt 38) then
      if p2 = 0 then
        u_bi (u_c 313 [.inl (Int32.ofInt 0)] s) fun x2 s1 =>
        some (some (.inl x2), s1)
      else
        if p3 = 0 then
          u_bi (u_c 313 [.inl (Int32.ofInt 0)] s) fun x4 s3 =>
          some (some (.inl x4), s3)
        else
          u_bi (u_c 313 [.inl (Int32.ofInt 1)] s) fun x6 s5 =>
          some (some (.inl x6), s5)
    else
      if p1 = (Int32.ofInt 39) then
        if p2 = 0 then
          if p3 = 0 then
            u_bi (u_c 313 [.inl (Int32.ofInt 0)] s) fun x8 s7 =>
            some (some (.inl x8), s7)
          else
            u_bi (u_c 313 [.inl (Int32.ofInt 1)] s) fun x10 s9 =>
            some (some (.inl x10), s9)
        else
          u_bi (u_c 313 [.inl (Int32.ofInt 1)] s) fun x12 s11 =>
          some (some (.inl x12), s11)
      else
        if p1 = (Int32.ofInt 40) then
          if p2 = 0 then
            if p3 = 0 then
              u_bi (u_c 313 [.inl (Int32.ofInt 0)] s) fun x14 s13 =>
              some (some (.inl x14), s13)
            else
              u_bi (u_c 313 [.inl (Int32.ofInt 1)] s) fun x16 s15 =>
              some (some (.inl x16), s15)
          else
            u_bi (u_c 313 [.inl (Int32.ofInt 1)] s) fun x18 s17 =>
            some (some (.inl x18), s17)
        else
          if p1 = (Int32.ofInt 41) then
            if p2 = 0 then
              if p3 = 0 then
                u_bi (u_c 313 [.inl (Int32.ofInt 0)] s) fun x20 s19 =>
                some (some (.inl x20), s19)
              else
                u_bi (u_c 313 [.inl (Int32.ofInt 1)] s) fun x22 s21 =>
                some (some (.inl x22), s21)
            else
              u_bi (u_c 313 [.inl (Int32.ofInt 1)] s) fun x24 s23 =>
              some (some (.inl x24), s23)
          else
            if p1 = (Int32.ofInt 42) then
              some (some (.inl (p2 * p3)), s)
            else
              if p1 = (Int32.ofInt 43) then
                some (some (.inl (p2 + p3)), s)
              else
                if p1 = (Int32.ofInt 44) then
                  if p2 = 0 then
                    if p3 = 0 then
                      u_bi (u_c 313 [.inl (Int32.ofInt 0)] s) fun x26 s25 =>
                      some (some (.inl x26), s25)
                    else
                      u_bi (u_c 313 [.inl (Int32.ofInt 1)] s) fun x28 s27 =>
                      some (some (.inl x28), s27)
                  else
                    u_bi (u_c 313 [.inl (Int32.ofInt 1)] s) fun x30 s29 =>
                    some (some (.inl x30), s29)
                else
                  if p1 = (Int32.ofInt 45) then
                    some (some (.inl (p2 - p3)), s)
                  else
                    if p1 = (Int32.ofInt 46) then
                      if p2 = 0 then
                        if p3 = 0 then
                          u_bi (u_c 313 [.inl (Int32.ofInt 0)] s) fun x32 s31 =>
                          some (some (.inl x32), s31)
                        else
                          u_bi (u_c 313 [.inl (Int32.ofInt 1)] s) fun x34 s33 =>
                          some (some (.inl x34), s33)
                      else
                        u_bi (u_c 313 [.inl (Int32.ofInt 1)] s) fun x36 s35 =>
                        some (some (.inl x36), s35)
                    else
                      if p1 = (Int32.ofInt 47) then
                        if p3 = 0 then
                          some (some (.inl (Int32.ofInt 0)), s)
                        else
                          if p3 = 0 then
                            none
                          else
                            some (some (.inl (p2 / p3)), s)
                      else
                        if p1 = (Int32.ofInt 48) then
                          if p2 = 0 then
                            if p3 = 0 then
                              u_bi (u_c 313 [.inl (Int32.ofInt 0)] s) fun x38 s37 =>
                              some (some (.inl x38), s37)
                            else
                              u_bi (u_c 313 [.inl (Int32.ofInt 1)] s) fun x40 s39 =>
                              some (some (.inl x40), s39)
                          else
                            u_bi (u_c 313 [.inl (Int32.ofInt 1)] s) fun x42 s41 =>
                            some (some (.inl x42), s41)
                        else
                          if p1 = (Int32.ofInt 49) then
                            if p2 = 0 then
                              if p3 = 0 then
                                u_bi (u_c 313 [.inl (Int32.ofInt 0)] s) fun x44 s43 =>
                                some (some (.inl x44), s43)
                              else
                                u_bi (u_c 313 [.inl (Int32.ofInt 1)] s) fun x46 s45 =>
                                some (some (.inl x46), s45)
                            else
                              u_bi (u_c 313 [.inl (Int32.ofInt 1)] s) fun x48 s47 =>
                              some (some (.inl x48), s47)
                          else
                            if p1 = (Int32.ofInt 50) then
                              if p2 = 0 then
                                if p3 = 0 then
                                  u_bi (u_c 313 [.inl (Int32.ofInt 0)] s) fun x50 s49 =>
                                  some (some (.inl x50), s49)
                                else
                                  u_bi (u_c 313 [.inl (Int32.ofInt 1)] s) fun x52 s51 =>
                                  some (some (.inl x52), s51)
                              else
                                u_bi (u_c 313 [.inl (Int32.ofInt 1)] s) fun x54 s53 =>
                                some (some (.inl x54), s53)
                            else
                              if p1 = (Int32.ofInt 51) then
                                if p2 = 0 then
                                  if p3 = 0 then
                                    u_bi (u_c 313 [.inl (Int32.ofInt 0)] s) fun x56 s55 =>
                                    some (some (.inl x56), s55)
                                  else
                                    u_bi (u_c 313 [.inl (Int32.ofInt 1)] s) fun x58 s57 =>
                                    some (some (.inl x58), s57)
                                else
                                  u_bi (u_c 313 [.inl (Int32.ofInt 1)] s) fun x60 s59 =>
                                  some (some (.inl x60), s59)
                              else
                                if p1 = (Int32.ofInt 52) then
                                  if p2 = 0 then
                                    if p3 = 0 then
                                      u_bi (u_c 313 [.inl (Int32.ofInt 0)] s) fun x62 s61 =>
                                      some (some (.inl x62), s61)
                                    else
                                      u_bi (u_c 313 [.inl (Int32.ofInt 1)] s) fun x64 s63 =>
                                      some (some (.inl x64), s63)
                                  else
                                    u_bi (u_c 313 [.inl (Int32.ofInt 1)] s) fun x66 s65 =>
                                    some (some (.inl x66), s65)
                                else
                                  if p1 = (Int32.ofInt 53) then
                                    if p2 = 0 then
                                      if p3 = 0 then
                                        u_bi (u_c 313 [.inl (Int32.ofInt 0)] s) fun x68 s67 =>
                                        some (some (.inl x68), s67)
                                      else
                                        u_bi (u_c 313 [.inl (Int32.ofInt 1)] s) fun x70 s69 =>
                                        some (some (.inl x70), s69)
                                    else
                                      u_bi (u_c 313 [.inl (Int32.ofInt 1)] s) fun x72 s71 =>
                                      some (some (.inl x72), s71)
                                  else
                                    if p1 = (Int32.ofInt 54) then
                                      if p2 = 0 then
                                        if p3 = 0 then
                                          u_bi (u_c 313 [.inl (Int32.ofInt 0)] s) fun x74 s73 =>
                                          some (some (.inl x74), s73)
                                        else
                                          u_bi (u_c 313 [.inl (Int32.ofInt 1)] s) fun x76 s75 =>
                                          some (some (.inl x76), s75)
                                      else
                                        u_bi (u_c 313 [.inl (Int32.ofInt 1)] s) fun x78 s77 =>
                                        some (some (.inl x78), s77)
                                    else
                                      if p1 = (Int32.ofInt 55) then
                                        if p2 = 0 then
                                          if p3 = 0 then
                                            u_bi (u_c 313 [.inl (Int32.ofInt 0)] s) fun x80 s79 =>
                                            some (some (.inl x80), s79)
                                          else
                                            u_bi (u_c 313 [.inl (Int32.ofInt 1)] s) fun x82 s81 =>
                                            some (some (.inl x82), s81)
                                        else
                                          u_bi (u_c 313 [.inl (Int32.ofInt 1)] s) fun x84 s83 =>
                                          some (some (.inl x84), s83)
                                      else
                                        if p1 = (Int32.ofInt 56) then
                                          if p2 = 0 then
                                            if p3 = 0 then
                                              u_bi (u_c 313 [.inl (Int32.ofInt 0)] s) fun x86 s85 =>
                                              some (some (.inl x86), s85)
                                            else
                                              u_bi (u_c 313 [.inl (Int32.ofInt 1)] s) fun x88 s87 =>
                                              some (some (.inl x88), s87)
                                          else
                                            u_bi (u_c 313 [.inl (Int32.ofInt 1)] s) fun x90 s89 =>
                                            some (some (.inl x90), s89)
                                        else
                                          if p1 = (Int32.ofInt 57) then
                                            if p2 = 0 then
                                              if p3 = 0 then
                                                u_bi (u_c 313 [.inl (Int32.ofInt 0)] s) fun x92 s91 =>
                                                some (some (.inl x92), s91)
                                              else
                                                u_bi (u_c 313 [.inl (Int32.ofInt 1)] s) fun x94 s93 =>
                                                some (some (.inl x94), s93)
                                            else
                                              u_bi (u_c 313 [.inl (Int32.ofInt 1)] s) fun x96 s95 =>
                                              some (some (.inl x96), s95)
                                          else
                                            if p1 = (Int32.ofInt 58) then
                                              if p2 = 0 then
                                                if p3 = 0 then
                                                  u_bi (u_c 313 [.inl (Int32.ofInt 0)] s) fun x98 s97 =>
                                                  some (some (.inl x98), s97)
                                                else
                                                  u_bi (u_c 313 [.inl (Int32.ofInt 1)] s) fun x100 s99 =>
                                                  some (some (.inl x100), s99)
                                              else
                                                u_bi (u_c 313 [.inl (Int32.ofInt 1)] s) fun x102 s101 =>
                                                some (some (.inl x102), s101)
                                            else
                                              if p1 = (Int32.ofInt 59) then
                                                if p2 = 0 then
                                                  if p3 = 0 then
                                                    u_bi (u_c 313 [.inl (Int32.ofInt 0)] s) fun x104 s103 =>
                                                    some (some (.inl x104), s103)
                                                  else
                                                    u_bi (u_c 313 [.inl (Int32.ofInt 1)] s) fun x106 s105 =>
                                                    some (some (.inl x106), s105)
                                                else
                                                  u_bi (u_c 313 [.inl (Int32.ofInt 1)] s) fun x108 s107 =>
                                                  some (some (.inl x108), s107)
                                              else
                                                if p1 = (Int32.ofInt 60) then
                                                  if p2 < p3 then
                                                    u_bi (u_c 313 [.inl (Int32.ofInt 1)] s) fun x110 s109 =>
                                                    some (some (.inl x110), s109)
                                                  else
                                                    u_bi (u_c 313 [.inl (Int32.ofInt 0)] s) fun x112 s111 =>
                                                    some (some (.inl x112), s111)
                                                else
                                                  if p1 = (Int32.ofInt 61) then
                                                    if p2 = p3 then
                                                      u_bi (u_c 313 [.inl (Int32.ofInt 1)] s) fun x114 s113 =>
                                                      some (some (.inl x114), s113)
                                                    else
                                                      u_bi (u_c 313 [.inl (Int32.ofInt 0)] s) fun x116 s115 =>
                                                      some (some (.inl x116), s115)
                                                  else
                                                    if p1 = (Int32.ofInt 62) then
                                                      if p3 < p2 then
                                                        u_bi (u_c 313 [.inl (Int32.ofInt 1)] s) fun x118 s117 =>
                                                        some (some (.inl x118), s117)
                                                      else
                                                        u_bi (u_c 313 [.inl (Int32.ofInt 0)] s) fun x120 s119 =>
                                                        some (some (.inl x120), s119)
                                                    else
                                                      if p2 = 0 then
                                                        if p3 = 0 then
                                                          u_bi (u_c 313 [.inl (Int32.ofInt 0)] s) fun x122 s121 =>
                                                          some (some (.inl x122), s121)
                                                        else
                                                          u_bi (u_c 313 [.inl (Int32.ofInt 1)] s) fun x124 s123 =>
                                                          some (some (.inl x124), s123)
                                                      else
                                                        u_bi (u_c 313 [.inl (Int32.ofInt 1)] s) fun x126 s125 =>
                                                        some (some (.inl x126), s125) := (u_cE (t := g_t196) rfl _ _).trans ((u_E (5, 17, 5, 5) [] 120 g_t196 0 _ _ _).trans rfl)
/-! 197 GoodbyeQuayModel.empty()I -/
set_option maxRecDepth 4000 in
theorem b_197 (s : u_H) : u_c 197 [.inr (.inr 67)] s =
  u_bv (u_c 203 [.inr (.inr 67)] s) fun s1 =>
  u_bv (u_c 213 [.inr (.inr 67)] s1) fun s2 =>
  some (some (.inl (s2.1 65 62)), s2) := (u_cE (t := g_t197) rfl _ _).trans ((u_E (5, 17, 5, 5) [] 120 g_t197 0 _ _ _).trans rfl)
/-! 198 GoodbyeQuayModel.end(I)I -/
set_option maxRecDepth 4000 in
theorem b_198 (p1 : Int32) (s : u_H) : u_c 198 [.inr (.inr 67), .inl p1] s =
  if p1 < 0 then
    some (some (.inl (u_k (-1))), s)
  else
    if (s.1 65 1) < p1 then
      some (some (.inl (u_k (-1))), s)
    else
      some (some (.inl p1), ((y_u s.1 65 1 p1), s.2)) := (u_cE (t := g_t198) rfl _ _).trans ((u_E (5, 17, 5, 5) [] 120 g_t198 0 _ _ _).trans rfl)
/-! 199 GoodbyeQuayModel.exchangeAt(I)V -/
set_option maxRecDepth 4000 in
theorem b_199 (p1 : Int32) (s : u_H) : u_c 199 [.inr (.inr 67), .inl p1] s =
  u g_t199 2 ((u_l1 (u_l1 u_z1 1 p1) 2 (Int32.ofInt 0)), u_z2, [(0, 67)]) [] s := (u_cE (t := g_t199) rfl _ _).trans ((u_E (5, 17, 5, 5) [2] 120 g_t199 0 _ _ _).trans rfl)
set_option maxRecDepth 4000 in
theorem b_199_2 (li : Nat → Int32) (ll : Nat → Int64) (s : u_H) : u g_t199 2 (li, ll, [(0, 67)]) [] s =
  if (li 2) < (Int32.ofInt 28) then
    if u_in ((li 1) + (li 2)) 1120 = true then
      if u_in (li 2) 28 = true then
        if u_in ((li 1) + (li 2)) 1120 = true then
          if u_in (li 2) 28 = true then
            u g_t199 2 ((u_l1 (u_l1 li 3 (s.1 91 (((li 1) + (li 2)).toNatClampNeg))) 2 ((li 2) + (Int32.ofInt 1))), ll, [(0, 67)]) [] ((y_u (y_u s.1 91 (((li 1) + (li 2)).toNatClampNeg) (s.1 85 ((li 2).toNatClampNeg))) 85 ((li 2).toNatClampNeg) (s.1 91 (((li 1) + (li 2)).toNatClampNeg))), s.2)
          else
            none
        else
          none
      else
        none
    else
      none
  else
    some (none, s) := (u_E (5, 17, 5, 5) [2] 120 g_t199 2 _ _ _).trans rfl
