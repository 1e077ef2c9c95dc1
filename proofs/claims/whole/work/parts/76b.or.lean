/-! Bits, tried through. -/
theorem or_all : ∀ (c : Fin 10) (x : Fin 1024), x.val < 2 ^ c.val → rOr (x.val : Int) (rShl 1 (c.val : Int)) = (x.val : Int) + ((2 ^ c.val : Nat) : Int) ∧ rOr (x.val : Int) 0 = (x.val : Int) ∧ rBC ((x.val : Int) + ((2 ^ c.val : Nat) : Int)) = rBC (x.val : Int) + 1 := by decide +kernel
theorem bc_one : ∀ x : Fin 1024, (rBC (x.val : Int) = 0 ↔ x.val = 0) ∧ 0 ≤ rBC (x.val : Int) ∧ rBC (x.val : Int) ≤ 10 := by decide +kernel
