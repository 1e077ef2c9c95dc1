/-! Boards made. -/
def bdC (n : Nat) (B : Bo) : AH := [(0, hd0 n B), (20, B.ks), (20, B.ss), (20, [B.b0, B.b1])]
theorem getA {h L : AH} {c : Nat × List Int} : (h ++ c :: L)[h.length]? = some c := by
  rw [List.getElem?_append_right (Nat.le_refl _), Nat.sub_self]; rfl
theorem wrfA {h L : AH} {t k : Nat} {xs : List Int} (hk : k < xs.length) (v : Int) : wrf t (h ++ (t, xs) :: L) (Int.ofNat h.length) k v = some (h ++ (t, xs.set k v) :: L) := by
  have := wrf_n (getA (h := h) (L := L) (c := (t, xs))) hk v
  rw [List.set_append_right _ _ (Nat.le_refl _), Nat.sub_self] at this
  exact this
theorem bdH_app {h L : AH} {B : Bo} : BdH (h ++ (bdC h.length B ++ L)) h.length B := by
  refine ⟨?_, ?_, ?_, ?_⟩
  · exact getA
  · rw [List.getElem?_append_right (by omega), show h.length + 1 - h.length = 1 by omega]; rfl
  · rw [List.getElem?_append_right (by omega), show h.length + 2 - h.length = 2 by omega]; rfl
  · rw [List.getElem?_append_right (by omega), show h.length + 3 - h.length = 3 by omega]; rfl
theorem setB_app {h L : AH} {B C : Bo} : setB (h ++ (bdC h.length B ++ L)) h.length C = h ++ (bdC h.length C ++ L) := by
  unfold setB
  rw [List.set_append_right _ _ (by omega), List.set_append_right _ _ (by omega), List.set_append_right _ _ (by omega), List.set_append_right _ _ (by omega), show h.length - h.length = 0 by omega, show h.length + 1 - h.length = 1 by omega, show h.length + 2 - h.length = 2 by omega, show h.length + 3 - h.length = 3 by omega]
  rfl
