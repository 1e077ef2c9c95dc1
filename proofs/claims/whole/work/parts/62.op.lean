/-! A call on both sides. -/
def Op (scr : List Int) (mc mm : Nat) (as : List AV) : Prop := ∀ h : AH, Inv scr h → ∃ (v : Int) (h1 h2 : AH), cal 59 mc ((106, 2) :: as) h = some (v, h1) ∧ h1[0]? = some (26, scr) ∧ cal 59 mm ((107, 108) :: as) h1 = some (v, h2) ∧ Inv scr h2
