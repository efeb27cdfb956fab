/-! Integer.bitCount -/
def y_ush (x : Int32) (n : Int32) : Int32 := (x.toUInt32 >>> (n.toUInt32 &&& Int32.toUInt32 31)).toInt32
def y_bc (x : Int32) : Int32 :=
  (fun a : Int32 => (fun b : Int32 => (fun c : Int32 => (fun e : Int32 => (fun f : Int32 => f &&& 63) (e + y_ush e 16)) (c + y_ush c 8)) ((b + y_ush b 4) &&& 252645135)) ((a &&& 858993459) + (y_ush a 2 &&& 858993459))) (x - (y_ush x 1 &&& 1431655765))
theorem y_bitCount {sh : w_Sh} : y_C sh g_ts 325 1 (fun a _ => ∃ x, a = [.inl x]) (fun a s v s2 => s2 = s ∧ ∀ x, a = [.inl x] → v = some (.inl (y_bc x))) := by
  refine y_C.of (t := g_t325) rfl (by decide) ?_
  intro d a s _ hP
  obtain ⟨x, rfl⟩ := hP
  refine y_run 41 rfl ?_
  refine y_iret rfl ⟨rfl, fun x2 h => ?_⟩
  cases h
  rfl
theorem y_bc7 : ∀ c : Nat, c < 128 → 0 ≤ (y_bc (Int32.ofNat c)).toInt ∧ (y_bc (Int32.ofNat c)).toInt ≤ 7 := by decide +kernel
theorem y_bc8 : ∀ c : Nat, c < 256 → 0 ≤ (y_bc (Int32.ofNat c)).toInt ∧ (y_bc (Int32.ofNat c)).toInt ≤ 8 := by decide +kernel
