/-! Bits of boxes, tried through. -/
theorem in_all : ∀ (x b : Fin 5) (p q r s t : Bool), (rAnd (rShr (rOr (let f := fun (x : Int) (t : Bool) (k : Int) => if t = true then rOr x (rShl 1 k) else rOr x 0; f (f (f (f (f 0 p 0) q 1) r 2) s 3) t 4) (rShl 1 (x.val : Int))) (b.val : Int)) 1 = 1) ↔ ((if b.val = 0 then p else if b.val = 1 then q else if b.val = 2 then r else if b.val = 3 then s else t) = true ∨ b = x) := by decide +kernel
theorem or_as (x y z : Int) : a_or (a_or x y) z = a_or x (a_or y z) := by
  rw [e_or]; unfold rOr; rw [Int32.ofInt_toInt, Int32.ofInt_toInt, Int32.or_assoc]
theorem or_0l (x y : Int) : a_or x (a_or 0 y) = a_or x y := by
  rw [e_or]; unfold rOr; rw [Int32.ofInt_toInt, show Int32.ofInt 0 = 0 from rfl, Int32.zero_or]
theorem or_cn (x y : Int) : a_or (a_or x y) 0 = a_or x y := by
  rw [e_or]; unfold rOr; rw [Int32.ofInt_toInt, show Int32.ofInt 0 = 0 from rfl, Int32.or_zero]
theorem or_00 : a_or 0 0 = 0 := by rw [e_or]; decide +kernel
