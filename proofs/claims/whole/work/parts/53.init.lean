/-! Boards made. -/
def bdC (n : Nat) (B : Bo) : AH := [(0, hd0 n B), (20, B.ks), (20, B.ss), (20, [B.b0, B.b1])]
theorem getA {h L : AH} {c : Nat × List Int} : (h ++ c :: L)[h.length]? = some c := by
  rw [List.getElem?_append_right (Nat.le_refl _), Nat.sub_self]; rfl
theorem wrfA {h L : AH} {t k : Nat} {xs : List Int} (hk : k < xs.length) (v : Int) : wrf t (h ++ (t, xs) :: L) (Int.ofNat h.length) k v = some (h ++ (t, xs.set k v) :: L) := by
  have := wrf_n (getA (h := h) (L := L) (c := (t, xs))) hk v
  rw [List.set_append_right _ _ (Nat.le_refl _), Nat.sub_self] at this
  exact this
theorem bdH_app {h L : AH} {B : Bo} : BdH (h ++ (bdC h.length B ++ L)) h.length B := by
  refine ⟨?_, ?_, ?_, ?_⟩
  · exact getA
  · rw [List.getElem?_append_right (by omega), show h.length + 1 - h.length = 1 by omega]; rfl
  · rw [List.getElem?_append_right (by omega), show h.length + 2 - h.length = 2 by omega]; rfl
  · rw [List.getElem?_append_right (by omega), show h.length + 3 - h.length = 3 by omega]; rfl
theorem setB_app {h L : AH} {B C : Bo} : setB (h ++ (bdC h.length B ++ L)) h.length C = h ++ (bdC h.length C ++ L) := by
  unfold setB
  rw [List.set_append_right _ _ (by omega), List.set_append_right _ _ (by omega), List.set_append_right _ _ (by omega), List.set_append_right _ _ (by omega), show h.length - h.length = 0 by omega, show h.length + 1 - h.length = 1 by omega, show h.length + 2 - h.length = 2 by omega, show h.length + 3 - h.length = 3 by omega]
  rfl
def bdI : Bo := mkB (List.replicate 10 0) (List.replicate 10 0) 0 0 0 0 0
theorem bdI_ok : BoOK (bdI.setW (a_max 2 (a_min 3 5))) := by
  have e : a_max 2 (a_min 3 5) = 3 := by rw [a_min_def, a_max_def]; decide
  rw [e]
  refine ⟨by decide, by decide, by decide, by decide, ?_, ?_, Or.inl rfl, by decide, by decide, by decide, by decide, by decide, by decide⟩
  · intro i hi
    rcases (show i = 0 ∨ i = 1 ∨ i = 2 ∨ i = 3 ∨ i = 4 ∨ i = 5 ∨ i = 6 ∨ i = 7 ∨ i = 8 ∨ i = 9 by omega) with rfl | rfl | rfl | rfl | rfl | rfl | rfl | rfl | rfl | rfl <;> decide
  · intro i hi
    rcases (show i = 0 ∨ i = 1 ∨ i = 2 ∨ i = 3 ∨ i = 4 ∨ i = 5 ∨ i = 6 ∨ i = 7 ∨ i = 8 ∨ i = 9 by omega) with rfl | rfl | rfl | rfl | rfl | rfl | rfl | rfl | rfl | rfl <;> decide
theorem c_bdInit {h : AH} {d : Nat} : cal (d + 2) m_Bd_init [(100, Int.ofNat h.length)] (h ++ [(0, am_ini 0)]) = some (0, h ++ bdC h.length (bd0 3)) := by
  have e : a_max 2 (a_min 3 5) = 3 := by rw [a_min_def, a_max_def]; decide
  rw [k_Bd_init, List.append_assoc]
  show (wrf 0 (h ++ (0, am_ini 0) :: [(20, List.replicate 10 0)]) (Int.ofNat h.length) 0 _).bind _ = _
  rw [wrfA (by simp [am_ini, am_ft]), Option.bind_some, List.append_assoc]
  show (wrf 0 (h ++ (0, _) :: [(20, List.replicate 10 0), (20, List.replicate 10 0)]) (Int.ofNat h.length) 1 _).bind _ = _
  rw [wrfA (by simp [am_ini, am_ft]), Option.bind_some, List.append_assoc]
  show (wrf 0 (h ++ (0, _) :: [(20, List.replicate 10 0), (20, List.replicate 10 0), (20, List.replicate 2 0)]) (Int.ofNat h.length) 2 _).bind _ = _
  rw [wrfA (by simp [am_ini, am_ft]), Option.bind_some]
  simp only [List.length_append, List.length_cons, List.length_nil]
  have := c_setUp (d := d) (n := h.length) (h := h ++ (bdC h.length bdI ++ [])) (x := 3) bdH_app bdI_ok
  rw [e, setB_app, List.append_nil, List.append_nil] at this
  refine (congrArg (fun z => Option.bind z (fun q4 : Int × AH => some ((0 : Int), q4.2))) this).trans ?_
  rfl
