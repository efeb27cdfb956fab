def g_end (s : Option (q_Sf q_A)) : Bool := match s with
  | some s => (match s.2.2.1 with
    | [.inl (.inl x)] => Nat.beq x 1 && (Nat.ble s.2.2.2.1.1 600000 && Nat.ble s.2.2.2.2 7302250)
    | _ => false)
  | none => false
set_option maxRecDepth 100000 in
theorem g_test1 : g_end (q_ftill (q_OA q_K0) (some [.inl 25, .inl 0, .inl 0, .inl 0, .inl 0, .inl 0]) g_fs 100000 8 g_fl 1620 100 0 [(0, .inr (.inr 1))] [] (0, q_m0) 0) = true := by decide +kernel
