/-! The model's row, and what it reads of it. -/
theorem rem_id {x y : Int} (hx : inI x) (hy : inI y) (hp : 0 ≤ x) (hq : 0 < y) : a_rem x y = x % y := by
  have h1 : 0 ≤ x / y := Int.ediv_nonneg hp (by omega)
  have h2 : x / y ≤ x := Int.ediv_le_self y hp
  have h3 : x / y * y + x % y = x := Int.ediv_mul_add_emod x y
  have h4 : 0 ≤ x % y := Int.emod_nonneg x (by omega)
  have h5 : x % y < y := Int.emod_lt_of_pos x hq
  have h6 : 0 ≤ x / y * y := Int.mul_nonneg h1 (by omega)
  have hx2 := hx.2
  have hy2 := hy.2
  have e : (Int32.ofInt x / Int32.ofInt y).toInt = x / y := by rw [← a_div_def]; exact div_id hx hy hp hq
  have e2 : (Int32.ofInt x / Int32.ofInt y * Int32.ofInt y).toInt = x / y * y := by
    rw [Int32.toInt_mul, e, toI hy]
    exact Int.bmod_eq_of_le (by omega) (by omega)
  rw [a_rem_def, Int32.toInt_sub, e2, toI hx, show x - x / y * y = x % y by omega]
  exact Int.bmod_eq_of_le (by omega) (by omega)
def row (B : Bo) : List Int := B.w :: B.t :: B.b0 :: B.b1 :: B.m :: (B.ks ++ B.ss)
def MnH (h : AH) (q : Nat) (B : Bo) : Prop := (∃ xs, h[q]? = some (7, ((q + 1 : Nat) : Int) :: xs)) ∧ h[q + 1]? = some (20, row B)
def setN (h : AH) (q : Nat) (B : Bo) : AH := h.set (q + 1) (20, row B)
section ROW
variable {h : AH} {q d : Nat} {B C : Bo} {i : Int}
theorem MnH.lt (H : MnH h q B) : q + 1 < h.length := (List.getElem?_eq_some_iff.mp H.2).1
theorem MnH.set (H : MnH h q B) (C : Bo) : MnH (setN h q C) q C := by
  obtain ⟨xs, e⟩ := H.1
  refine ⟨⟨xs, ?_⟩, ?_⟩
  · unfold setN; rw [List.getElem?_set_ne (by omega)]; exact e
  · unfold setN; rw [List.getElem?_set_self H.lt]
theorem setN_setN : setN (setN h q B) q C = setN h q C := by unfold setN; rw [List.set_set]
theorem setN_self (H : MnH h q B) : setN h q B = h := by
  apply List.ext_getElem?
  intro j
  unfold setN
  rw [List.getElem?_set]
  by_cases e : q + 1 = j
  · subst e; rw [if_pos rfl, if_pos H.lt, H.2]
  · rw [if_neg e]
theorem MnH.now (H : MnH h q B) : rdr 7 h (q : Int) 0 = some ((q + 1 : Nat) : Int) := by
  obtain ⟨xs, e⟩ := H.1
  exact rdr_n e rfl (by omega)
theorem row_len (O : BoOK B) : (row B).length = 25 := by simp [row, O.kl, O.sl]
theorem MnH.rw0 (H : MnH h q B) : rda 20 h ((q + 1 : Nat) : Int) 0 = some B.w := by rw [rda_i H.2 (by omega)]; rfl
theorem MnH.rt (H : MnH h q B) : rda 20 h ((q + 1 : Nat) : Int) 1 = some B.t := by rw [rda_i H.2 (by omega)]; rfl
theorem MnH.rm (H : MnH h q B) : rda 20 h ((q + 1 : Nat) : Int) 4 = some B.m := by rw [rda_i H.2 (by omega)]; rfl
theorem MnH.rb0 (H : MnH h q B) : rda 20 h ((q + 1 : Nat) : Int) 2 = some B.b0 := by rw [rda_i H.2 (by omega)]; rfl
theorem MnH.rb1 (H : MnH h q B) : rda 20 h ((q + 1 : Nat) : Int) 3 = some B.b1 := by rw [rda_i H.2 (by omega)]; rfl
theorem MnH.rB (H : MnH h q B) (hs : i = 0 ∨ i = 1) : rda 20 h ((q + 1 : Nat) : Int) (a_add 2 i) = some (B.bn i) := by
  rw [add_id (by omega) (by omega)]
  rcases hs with rfl | rfl
  · exact H.rb0
  · exact H.rb1
theorem MnH.rk (H : MnH h q B) (O : BoOK B) (h0 : 0 ≤ i) (h1 : i < 10) : rda 20 h ((q + 1 : Nat) : Int) (a_add 5 i) = some (B.ki i) := by
  rw [add_id (by omega) (by omega), rda_i H.2 (by omega), show (5 + i).toNat = i.toNat + 1 + 1 + 1 + 1 + 1 by omega]
  show (B.ks ++ B.ss)[i.toNat]? = _
  rw [List.getElem?_append_left (by rw [O.kl]; omega)]
  exact getD_some (by rw [O.kl]; omega)
theorem MnH.rs (H : MnH h q B) (O : BoOK B) (h0 : 0 ≤ i) (h1 : i < 10) : rda 20 h ((q + 1 : Nat) : Int) (a_add 15 i) = some (B.si i) := by
  rw [add_id (by omega) (by omega), rda_i H.2 (by omega), show (15 + i).toNat = (10 + i.toNat) + 1 + 1 + 1 + 1 + 1 by omega]
  show (B.ks ++ B.ss)[10 + i.toNat]? = _
  rw [List.getElem?_append_right (by rw [O.kl]; omega), O.kl, show 10 + i.toNat - 10 = i.toNat by omega]
  exact getD_some (by rw [O.sl]; omega)
theorem MnH.ws (H : MnH h q B) (O : BoOK B) (h0 : 0 ≤ i) (h1 : i < 10) (v : Int) : wra 20 h ((q + 1 : Nat) : Int) (a_add 15 i) v = some (setN h q (B.setS i v)) := by
  rw [add_id (by omega) (by omega), wra_i H.2 (by omega) (by rw [row_len O]; omega), show (15 + i).toNat = (10 + i.toNat) + 1 + 1 + 1 + 1 + 1 by omega]
  show some (h.set (q + 1) (20, B.w :: B.t :: B.b0 :: B.b1 :: B.m :: (B.ks ++ B.ss).set (10 + i.toNat) v)) = _
  rw [List.set_append_right _ _ (by rw [O.kl]; omega), O.kl, show 10 + i.toNat - 10 = i.toNat by omega]
  rfl
theorem MnH.wk (H : MnH h q B) (O : BoOK B) (h0 : 0 ≤ i) (h1 : i < 10) (v : Int) : wra 20 h ((q + 1 : Nat) : Int) (a_add 5 i) v = some (setN h q (B.setK i v)) := by
  rw [add_id (by omega) (by omega), wra_i H.2 (by omega) (by rw [row_len O]; omega), show (5 + i).toNat = i.toNat + 1 + 1 + 1 + 1 + 1 by omega]
  show some (h.set (q + 1) (20, B.w :: B.t :: B.b0 :: B.b1 :: B.m :: (B.ks ++ B.ss).set i.toNat v)) = _
  rw [List.set_append_left _ _ (by rw [O.kl]; omega)]
  rfl
theorem MnH.wB (H : MnH h q B) (O : BoOK B) (hs : i = 0 ∨ i = 1) (v : Int) : wra 20 h ((q + 1 : Nat) : Int) (a_add 2 i) v = some (setN h q (B.setBn i v)) := by
  rw [add_id (by omega) (by omega)]
  rcases hs with rfl | rfl
  · rw [wra_i H.2 (by omega) (by rw [row_len O]; decide)]; rfl
  · rw [wra_i H.2 (by omega) (by rw [row_len O]; decide)]; rfl
theorem MnH.wt (H : MnH h q B) (O : BoOK B) (v : Int) : wra 20 h ((q + 1 : Nat) : Int) 1 v = some (setN h q (B.setT v)) := by
  rw [wra_i H.2 (by omega) (by rw [row_len O]; decide)]; rfl
theorem MnH.wm (H : MnH h q B) (O : BoOK B) (v : Int) : wra 20 h ((q + 1 : Nat) : Int) 4 v = some (setN h q (B.setM v)) := by
  rw [wra_i H.2 (by omega) (by rw [row_len O]; decide)]; rfl
theorem m_liftsOf {k s : Int} (hs : 0 ≤ s) (hs2 : s ≤ 1000) (h : AH) : cal (d + 1) m_Mo_liftsOf [(0, k), (0, s)] h = some (Lk k s, h) := by
  rw [k_Mo_liftsOf]
  unfold Lk
  split
  · by_cases a : s < 1
    · rw [if_pos a, if_neg (by omega)]
    · rw [if_neg a, if_pos (by omega), sub_id (by omega) (by omega)]
  · split
    · rfl
    · split
      · rw [add_id (by omega) (by omega), div_id ⟨by omega, by omega⟩ ⟨by omega, by omega⟩ (by omega) (by omega)]
      · rfl
theorem m_takesOne {k s : Int} (hk0 : 0 ≤ k) (hk : k ≤ 4) (h : AH) : cal (d + 1) m_Mo_takesOne [(0, k), (0, s)] h = some (bI (Tk k s), h) := by
  rw [k_Mo_takesOne]
  unfold Tk bI
  have e1 : (98 < s) = ¬ (s < 99) := by apply propext; omega
  have e2 : (2 < s) = ¬ (s ≤ 2) := by apply propext; omega
  simp only [e1, e2]
  rcases (show k = 0 ∨ k = 1 ∨ k = 2 ∨ k = 3 ∨ k = 4 by omega) with rfl | rfl | rfl | rfl | rfl
  · by_cases b : s < 99 <;> simp [b]
  · by_cases b : s < 99 <;> simp [b]
  · by_cases b : s < 99 <;> simp [b]
  · simp
  · by_cases b : s ≤ 2 <;> simp [b]
theorem m_yieldsAll {k s : Int} (hk0 : 0 ≤ k) (hk : k ≤ 4) (h : AH) : cal (d + 1) m_Mo_yieldsAll [(0, k), (0, s)] h = some (bI (Yk k s), h) := by
  rw [k_Mo_yieldsAll]
  unfold Yk bI
  have e1 : (1 < s) = (2 ≤ s) := by apply propext; omega
  have e2 : (s < 6) = (s ≤ 5) := by apply propext; omega
  have e3 : (s < 4) = (s ≤ 3) := by apply propext; omega
  simp only [e1, e2, e3]
  rcases (show k = 0 ∨ k = 1 ∨ k = 2 ∨ k = 3 ∨ k = 4 by omega) with rfl | rfl | rfl | rfl | rfl
  · by_cases a : 2 ≤ s <;> by_cases b : s ≤ 3 <;> simp [a, b]
  · by_cases a : 2 ≤ s <;> by_cases b : s ≤ 3 <;> simp [a, b]
  · by_cases a : 2 ≤ s <;> by_cases b : s ≤ 5 <;> simp [a, b]
  · simp
  · simp
theorem m_lifts (H : MnH h q B) (O : BoOK B) (h0 : 0 ≤ i) (h1 : i < 10) : cal (d + 2) m_Mo_lifts [(107, (q : Int)), (0, i)] h = some (B.li i, h) := by
  have := si_r O h0 h1
  rw [k_Mo_lifts, H.now, Option.bind_some, H.rk O h0 h1, Option.bind_some, Option.bind_some, H.rs O h0 h1, Option.bind_some, m_liftsOf (by omega) (by omega)]; rfl
theorem m_sideOf (H : MnH h q B) (i : Int) : cal (d + 1) m_Mo_sideOf [(107, (q : Int)), (0, i)] h = some (sd B.w i, h) := by
  rw [k_Mo_sideOf, H.now, Option.bind_some, H.rw0, Option.bind_some]
  unfold sd
  by_cases a : i < B.w <;> simp [a]
theorem m_canGo (H : MnH h q B) (O : BoOK B) (h0 : 0 ≤ i) (h1 : i < 10) : cal (d + 3) m_Mo_canGo [(107, (q : Int)), (0, i)] h = some (bI (B.go i), h) := by
  rw [k_Mo_canGo, m_sideOf H, Option.bind_some]
  show (rdr 7 h (q : Int) 0).bind _ = _
  rw [H.now, Option.bind_some]
  show (rda 20 h ((q + 1 : Nat) : Int) 1).bind _ = _
  rw [H.rt, Option.bind_some]
  show (if sd B.w i = B.t then (cal (d + 2) m_Mo_lifts [(107, (q : Int)), (0, i)] h).bind _ else some (0, h)) = _
  rw [m_lifts H O h0 h1, Option.bind_some]
  unfold Bo.go bI
  by_cases a : sd B.w i = B.t
  · by_cases b : 0 < B.li i
    · have : 1 ≤ B.li i := by omega
      simp [a, b, this]
    · have : ¬ 1 ≤ B.li i := by omega
      simp [a, b, this]
  · simp [a]
theorem m_next (H : MnH h q B) (O : BoOK B) (h0 : 0 ≤ i) (h1 : i < 2 * B.w) : cal (d + 1) m_Mo_next [(107, (q : Int)), (0, i)] h = some (nx B i, h) := by
  have hw2 := O.w2
  have hw5 := O.w5
  rw [k_Mo_next, H.now, Option.bind_some, H.rw0, Option.bind_some, mul_id (by omega) (by omega), if_neg (by omega), add_id (by omega) (by omega), rem_id ⟨by omega, by omega⟩ ⟨by omega, by omega⟩ (by omega) (by omega)]
  unfold nx
  by_cases a : i + 1 < 2 * B.w
  · rw [if_pos a, Int.emod_eq_of_lt (by omega) a]
  · rw [if_neg a, show i + 1 = 2 * B.w by omega, Int.emod_self]
theorem m_ahead (H : MnH h q B) (O : BoOK B) (h0 : 0 ≤ i) (h1 : i < 2 * B.w) : cal (d + 1) m_Mo_ahead [(107, (q : Int)), (0, i)] h = some (if 0 < i then i - 1 else 2 * B.w - 1, h) := by
  have hw2 := O.w2
  have hw5 := O.w5
  rw [k_Mo_ahead, H.now, Option.bind_some, H.rw0, Option.bind_some, Option.bind_some, H.rw0, Option.bind_some, mul_id (by omega) (by omega), if_neg (by omega), add_id (by omega) (by omega), sub_id (by omega) (by omega), rem_id ⟨by omega, by omega⟩ ⟨by omega, by omega⟩ (by omega) (by omega)]
  by_cases a : 0 < i
  · rw [if_pos a, show i + 2 * B.w - 1 = (i - 1) + 2 * B.w by omega, Int.add_emod_right, Int.emod_eq_of_lt (by omega) (by omega)]
  · rw [if_neg a, show i + 2 * B.w - 1 = 2 * B.w - 1 by omega, Int.emod_eq_of_lt (by omega) (by omega)]
end ROW
