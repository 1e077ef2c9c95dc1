/-! Calls that read the board. -/
theorem ifs {c : Prop} [Decidable c] {x y : Int} {h : AH} : (if c then (some (x, h) : AR) else some (y, h)) = some (if c then x else y, h) := by split <;> rfl
theorem bIz (b : Bool) : (if bI b = 0 then (0 : Int) else 1) = bI b := by cases b <;> rfl
section OPS
variable {scr : List Int}
theorem op_house (a b : Int) : Op scr m_Ss_house m_Mo_house [(0, a), (0, b)] := by
  intro h I
  obtain ⟨hl, hs, ho, le, un, ke, ma, B, C, iS, ⟨pl, be, to, va, br, la, hm⟩, ⟨H, e9, G1, G2, g3, E⟩, -⟩ := id I
  have O := G1.ok
  have OC := G2.ok
  have MN := MnH.of hm e9
  have w5 := O.w5
  have c1 : cal 58 m_Bd_has [(100, 11), (0, a)] h = some (bI (decide (0 ≤ a ∧ a < 2 * B.w)), h) := c_has (n := 11) H O a
  have m1 : cal 58 m_Mo_isHouse [(107, 108), (0, a)] h = some (bI (decide (0 ≤ a ∧ a < 2 * B.w)), h) := by
    have := m_isHouse (d := 56) MN OC a
    rw [E.1] at this
    exact this
  by_cases hi : 0 ≤ a ∧ a < 2 * B.w
  · rw [bI_t hi] at c1 m1
    obtain ⟨h0, h1⟩ := hi
    have c2 : cal 58 m_Bd_kind [(100, 11), (0, a)] h = some (B.ki a, h) := c_kind (n := 11) H O h0 (by omega)
    have c3 : cal 58 m_Bd_seeds [(100, 11), (0, a)] h = some (B.si a, h) := c_seeds (n := 11) H O h0 (by omega)
    have c4 : cal 58 m_Bd_lifted [(100, 11), (0, a)] h = some (B.li a, h) := c_bLifted (n := 11) H O h0 (by omega)
    have c5 : cal 58 m_Bd_takes [(100, 11), (0, a)] h = some (bI (B.tk a), h) := c_bTakes (n := 11) H O h0 (by omega)
    have c6 : cal 58 m_Bd_yields [(100, 11), (0, a)] h = some (bI (B.yl a), h) := c_bYields (n := 11) H O h0 (by omega)
    have r1 : rdr 7 h 108 0 = some 109 := MN.now
    have r2 : rda 20 h 109 (a_add 5 a) = some (B.ki a) := by rw [← (E.2.2.2.2.2 a h0 h1).1]; exact MN.rk OC h0 (by omega)
    have r3 : rda 20 h 109 (a_add 15 a) = some (B.si a) := by rw [← (E.2.2.2.2.2 a h0 h1).2]; exact MN.rs OC h0 (by omega)
    have hk := ki_r O h0 (by omega)
    have hsi := si_r O h0 (by omega)
    have m2 : cal 58 m_Mo_liftsOf [(0, B.ki a), (0, B.si a)] h = some (B.li a, h) := m_liftsOf (by omega) (by omega) h
    have m3 : cal 58 m_Mo_takesOne [(0, B.ki a), (0, B.si a)] h = some (bI (B.tk a), h) := m_takesOne hk.1 hk.2 h
    have m4 : cal 58 m_Mo_yieldsAll [(0, B.ki a), (0, B.si a)] h = some (bI (B.yl a), h) := m_yieldsAll hk.1 hk.2 h
    refine ⟨if b = 0 then B.ki a else if b = 1 then B.si a else if b = 2 then B.li a else if b = 3 then bI (B.tk a) else if b = 4 then bI (B.yl a) else -3, h, h, ?_, hs, ?_, I⟩
    · rw [k_Ss_house]
      simp only [iS.r2, c1, c2, c3, c4, c5, c6, Option.bind_some, ifs, bIz]
      rfl
    · rw [k_Mo_house]
      simp only [r1, m1, r2, r3, m2, m3, m4, Option.bind_some, ifs, bIz]
      rfl
  · rw [bI_f hi] at c1 m1
    refine ⟨-2, h, h, ?_, hs, ?_, I⟩
    · rw [k_Ss_house]
      simp only [iS.r2, c1, Option.bind_some, if_true]
    · rw [k_Mo_house]
      simp only [m1, Option.bind_some, if_true]
theorem under_ok (k x : Int) (k0 : 0 ≤ k) (k4 : k ≤ 4) (x0 : 0 ≤ x) (x5 : x ≤ 5) : (a_and (a_shr (ovr.getD k.toNat 0) x) 1 = 1) ↔ (x = 0 ∨ x = k + 1 ∨ (x = 1 ∧ k < 3) ∨ (x = 4 ∧ k = 4)) := by
  rw [a_and_def, a_shr_def]
  rcases (show k = 0 ∨ k = 1 ∨ k = 2 ∨ k = 3 ∨ k = 4 by omega) with rfl | rfl | rfl | rfl | rfl <;> rcases (show x = 0 ∨ x = 1 ∨ x = 2 ∨ x = 3 ∨ x = 4 ∨ x = 5 by omega) with rfl | rfl | rfl | rfl | rfl | rfl <;> decide
theorem op_as (a b : Int) : Op scr m_Ss_as m_Mo_as [(0, a), (0, b)] := by
  intro h I
  obtain ⟨hl, hs, ho, le, un, ke, ma, B, C, iS, ⟨pl, be, to, va, br, la, hm⟩, ⟨H, e9, G1, G2, g3, E⟩, -⟩ := id I
  have O := G1.ok
  have OC := G2.ok
  have MN := MnH.of hm e9
  have w5 := O.w5
  have c1 : cal 58 m_Bd_has [(100, 11), (0, a)] h = some (bI (decide (0 ≤ a ∧ a < 2 * B.w)), h) := c_has (n := 11) H O a
  have m1 : cal 58 m_Mo_isHouse [(107, 108), (0, a)] h = some (bI (decide (0 ≤ a ∧ a < 2 * B.w)), h) := by
    have := m_isHouse (d := 56) MN OC a
    rw [E.1] at this
    exact this
  by_cases hi : 0 ≤ a ∧ a < 2 * B.w
  · rw [bI_t hi] at c1 m1
    obtain ⟨h0, h1⟩ := hi
    have c2 : cal 58 m_Ss_isWithin [(0, b), (0, 0), (0, 5)] h = some (bI (decide (0 ≤ b ∧ b ≤ 5)), h) := c_within b 0 5
    have m2 : cal 58 m_Mo_in [(2, b), (2, 0), (2, 5)] h = some (bI (decide (0 ≤ b ∧ b ≤ 5)), h) := m_in b 0 5
    by_cases hb : 0 ≤ b ∧ b ≤ 5
    · rw [bI_t hb] at c2 m2
      have hk := ki_r O h0 (by omega)
      have c3 : cal 58 m_Bd_kind [(100, 11), (0, a)] h = some (B.ki a, h) := c_kind (n := 11) H O h0 (by omega)
      have r1 : rdr 7 h 108 0 = some 109 := MN.now
      have r2 : rda 20 h 109 (a_add 5 a) = some (B.ki a) := by rw [← (E.2.2.2.2.2 a h0 h1).1]; exact MN.rk OC h0 (by omega)
      have L : cal 58 m_Ki_lifted [(0, B.ki a), (0, 7)] h = some (Lk (B.ki a) 7, h) := c_lifted (by omega) (by omega) h
      have L2 : run 59 m_Mo_as 66 [(107, 108), (0, a), (0, b), (0, B.ki a), (9, 0)] [] h = some (Lk (B.ki a) 7, h) := by
        rw [k_Mo_as_66, m_liftsOf (by omega) (by omega), Option.bind_some]
      have w1 : cal 57 m_Ss_isWithin [(0, B.ki a), (0, 0), (0, 4)] h = some (1, h) := by rw [c_within, bI_t hk]
      have w2 : cal 57 m_Ss_isWithin [(0, b), (0, 0), (0, 5)] h = some (1, h) := by rw [c_within, bI_t hb]
      have rO : rda 26 h 1 (B.ki a) = some (ovr.getD (B.ki a).toNat 0) := by
        refine (rda_i (n := 1) ho hk.1).trans (getD_some ?_)
        show (B.ki a).toNat < 5
        omega
      have U := under_ok (B.ki a) b hk.1 hk.2 hb.1 hb.2
      have c4 : cal 58 m_Ki_isUnder [(0, B.ki a), (0, b)] h = some (if a_and (a_shr (ovr.getD (B.ki a).toNat 0) b) 1 = 1 then 1 else 0, h) := by
        rw [k_Ki_isUnder]
        simp only [w1, w2, rO, Option.bind_some, ifs]
        rfl
      by_cases u : b = 0 ∨ b = B.ki a + 1 ∨ (b = 1 ∧ B.ki a < 3) ∨ (b = 4 ∧ B.ki a = 4)
      · rw [if_pos (U.mpr u)] at c4
        refine ⟨Lk (B.ki a) 7, h, h, ?_, hs, ?_, I⟩
        · rw [k_Ss_as]
          simp only [iS.r2, c1, c2, c3, c4, L, Option.bind_some]
          rfl
        · rw [k_Mo_as]
          simp only [m1, m2, r1, r2, Option.bind_some, L2]
          rw [add_id (by omega) (by omega), if_neg (by decide), if_neg (by decide)]
          by_cases u0 : b = 0
          · rw [if_pos u0]
          · rw [if_neg u0]
            by_cases u1 : b = B.ki a + 1
            · rw [if_pos u1]
            · rw [if_neg u1]
              by_cases u2 : b = 1
              · rw [if_pos u2, if_pos (by omega)]
              · rw [if_neg u2, if_pos (by omega), if_pos (by omega)]
      · rw [if_neg (fun z => u (U.mp z))] at c4
        refine ⟨-4, h, h, ?_, hs, ?_, I⟩
        · rw [k_Ss_as]
          simp only [iS.r2, c1, c2, c3, c4, Option.bind_some]
          rfl
        · rw [k_Mo_as]
          simp only [m1, m2, r1, r2, Option.bind_some, L2]
          rw [add_id (by omega) (by omega), if_neg (by decide), if_neg (by decide), if_neg (by omega), if_neg (by omega)]
          by_cases u2 : b = 1
          · rw [if_pos u2, if_neg (by omega), if_neg (by omega)]
          · rw [if_neg u2]
            by_cases u3 : b = 4
            · rw [if_pos u3, if_neg (by omega)]
            · rw [if_neg u3]
    · rw [bI_f hb] at c2 m2
      refine ⟨-3, h, h, ?_, hs, ?_, I⟩
      · rw [k_Ss_as]
        simp only [iS.r2, c1, c2, Option.bind_some]
        rfl
      · rw [k_Mo_as]
        simp only [m1, m2, Option.bind_some]
        rfl
  · rw [bI_f hi] at c1 m1
    refine ⟨-2, h, h, ?_, hs, ?_, I⟩
    · rw [k_Ss_as]
      simp only [iS.r2, c1, Option.bind_some, if_true]
    · rw [k_Mo_as]
      simp only [m1, Option.bind_some, if_true]
end OPS
