/-! A move keeps boards well, and alike. -/
section SOW
variable {B C : Bo} {i : Int}
theorem sow_ok (O : BoOK B) (hm : B.m < 1100) (hb : B.bn B.t + 500 ≤ 2000000) (h0 : 0 ≤ i) (h1 : i < 2 * B.w) : BoOK (sow B i) := by
  obtain ⟨OC, SC, c1, c2⟩ := sowC_ok O hb h0 h1
  rw [sow_eq SC]
  exact ok_end (B := sowC B i) (C := B) (i := i) OC OC.t01 (by rw [SC.2.2.1]; exact hm) OC.m0
theorem EqB.sow' (E : EqB B C) (O : BoOK B) (O' : BoOK C) (hb : B.bn B.t + 500 ≤ 2000000) (h0 : 0 ≤ i) (h1 : i < 2 * B.w) : EqB (sow B i) (sow C i) ∧ brg C i = brg B i := by
  have E1 := E.sowE O O' hb h0 h1
  refine ⟨⟨E1.1, ?_, E1.2.2.1, E1.2.2.2.1, ?_, E1.2.2.2.2.2⟩, ?_⟩
  · show 1 - C.t = 1 - B.t
    rw [E.2.1]
  · show C.m + 1 = B.m + 1
    rw [E.2.2.2.2.1]
  · unfold brg
    rw [E.2.1, E1.bn, E.bn]
end SOW
