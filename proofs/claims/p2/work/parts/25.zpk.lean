/-! THE KEYS THAT ARE KEPT: what is said of the heap beyond ranges speaks of these alone (printed by wip/gen/ckpk.py) -/
def g_pk : List (Nat × Nat) := []
