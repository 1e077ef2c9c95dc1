/-! Seeds dropped, kinds swapped. -/
section EQK
variable {B C : Bo} {i j v : Int}
theorem ki_set (O : BoOK B) (h0 : 0 ≤ i) (h1 : i < 10) (hj : 0 ≤ j) : (B.setK i v).ki j = if i = j then v else B.ki j := by
  show (B.ks.set i.toNat v).getD j.toNat 0 = _
  rw [gdE, List.getElem?_set]
  have := O.kl
  by_cases e : i = j
  · subst e; rw [if_pos rfl, if_pos (by omega), if_pos rfl]; rfl
  · rw [if_neg (by omega), if_neg e, ← gdE]; rfl
theorem EqB.setK (E : EqB B C) (O : BoOK B) (O' : BoOK C) (h0 : 0 ≤ i) (h1 : i < 10) : EqB (B.setK i v) (C.setK i v) :=
  ⟨E.1, E.2.1, E.2.2.1, E.2.2.2.1, E.2.2.2.2.1, fun j g0 g1 => ⟨by rw [ki_set O h0 h1 g0, ki_set O' h0 h1 g0, (E.2.2.2.2.2 j g0 g1).1], (E.2.2.2.2.2 j g0 g1).2⟩⟩
theorem Pr.setS (p : Pr B C) (h0 : 0 ≤ i) (h1 : i < 10) (v0 : 0 ≤ v) (v1 : v ≤ 99) : Pr (B.setS i v) (C.setS i v) :=
  ⟨⟨ok_setS p.1.1 v0 v1, p.1.2⟩, ⟨ok_setS p.2.1.1 v0 v1, p.2.1.2⟩, p.2.2.1, p.2.2.2.setS p.1.1 p.2.1.1 h0 h1⟩
theorem Pr.setK (p : Pr B C) (h0 : 0 ≤ i) (h1 : i < 10) (v0 : 0 ≤ v) (v1 : v ≤ 4) : Pr (B.setK i v) (C.setK i v) :=
  ⟨⟨ok_setK p.1.1 v0 v1, p.1.2⟩, ⟨ok_setK p.2.1.1 v0 v1, p.2.1.2⟩, p.2.2.1, p.2.2.2.setK p.1.1 p.2.1.1 h0 h1⟩
end EQK
section OPS
variable {scr : List Int}
theorem op_drop (a b : Int) : Op scr m_Ss_drop m_Mo_drop [(0, a), (0, b)] := by
  intro h I
  obtain ⟨hl, hs, ho, le, un, ke, ma, B, C, iS, iM, iN, iT, iP, iK, iX, iF, iW, iI, iB⟩ := id I
  obtain ⟨h1, q1, q2, ⟨un', q3⟩, q4⟩ := both_note hl hs ho iS iM iN iT iP iK iX iF iW iI iB
  obtain ⟨pl, be, to, va, br, la, hm⟩ := iM
  obtain ⟨H, e9, p⟩ := iN
  obtain ⟨G1, G2, g3, E⟩ := id p
  have O := G1.ok
  have OC := G2.ok
  have MN := MnH.of hm e9
  have w5 := O.w5
  have hl1 := q2.lt
  have c1 : cal 58 m_Bd_has [(100, 11), (0, a)] h = some (bI (decide (0 ≤ a ∧ a < 2 * B.w)), h) := c_has (n := 11) H O a
  have m1 : ∀ g : AH, MnH g 108 C → cal 58 m_Mo_isHouse [(107, 108), (0, a)] g = some (bI (decide (0 ≤ a ∧ a < 2 * B.w)), g) := by
    intro g MN
    have := m_isHouse (d := 56) MN OC a
    rw [E.1] at this
    exact this
  have c2 : cal 58 m_Ss_isWithin [(0, b), (0, 1), (0, 30)] h = some (bI (decide (1 ≤ b ∧ b ≤ 30)), h) := c_within b 1 30
  have m2 : ∀ g : AH, cal 58 m_Mo_in [(2, b), (2, 1), (2, 30)] g = some (bI (decide (1 ≤ b ∧ b ≤ 30)), g) := fun g => m_in b 1 30
  by_cases hi : 0 ≤ a ∧ a < 2 * B.w
  · rw [bI_t hi] at c1 m1
    obtain ⟨h0, h9⟩ := hi
    by_cases hb : 1 ≤ b ∧ b ≤ 30
    · rw [bI_t hb] at c2 m2
      have hsi := si_r O h0 (by omega)
      have c3 : cal 58 m_Bd_seeds [(100, 11), (0, a)] h = some (B.si a, h) := c_seeds (n := 11) H O h0 (by omega)
      have r1 : rdr 7 h 108 0 = some 109 := MN.now
      have r2 : rda 20 h 109 (a_add 15 a) = some (B.si a) := by rw [← (E.2.2.2.2.2 a h0 h9).2]; exact MN.rs OC h0 (by omega)
      by_cases h99 : B.si a < 99
      · have hv : 0 ≤ (if 99 < B.si a + b then 99 else B.si a + b) ∧ (if 99 < B.si a + b then 99 else B.si a + b) ≤ 99 := by split <;> omega
        have c4 : cal 58 m_Bd_give [(100, 11), (0, a), (0, b)] h1 = some (0, setB h1 11 (B.setS a (if 99 < B.si a + b then 99 else B.si a + b))) := c_give (n := 11) q2 O h0 (by omega) (by omega) (by omega)
        generalize hV : (if 99 < B.si a + b then 99 else B.si a + b) = V at hv c4
        have c5 : cal 58 m_Bd_seeds [(100, 11), (0, a)] (setB h1 11 (B.setS a V)) = some (V, setB h1 11 (B.setS a V)) := by
          have := c_seeds (d := 57) (n := 11) (bdH_set (B := B.setS a V) hl1) (ok_setS (i := a) O hv.1 hv.2) h0 (show a < 10 by omega)
          rw [si_set O h0 (by omega) h0, if_pos rfl] at this
          exact this
        have q3' : SsI (setB h1 11 (B.setS a V)) un' := q3.fr (P := fun j => 11 ≤ j ∧ j < 15) (fr_setB hl1 (fun j a b => by omega)) (by omega)
        obtain ⟨s0, s1, h2, s2, s3, s4⟩ := q4 (B.setS a V)
        refine ⟨V, setB h1 11 (B.setS a V), setN h2 108 (C.setS a V), ?_, s0, ?_, s4 _ (p.setS h0 (by omega) hv.1 hv.2)⟩
        · rw [k_Ss_drop]
          simp only [iS.r2, c1, c2, c3, q1, q3.r2, c4, q3'.r2, c5, Option.bind_some, h99]
          rfl
        · have x1 := m1 _ s1
          have x3 : rdr 7 (setB h1 11 (B.setS a V)) 108 0 = some 109 := s1.now
          have x4 : rda 20 (setB h1 11 (B.setS a V)) 109 (a_add 15 a) = some (B.si a) := by rw [← (E.2.2.2.2.2 a h0 h9).2]; exact s1.rs OC h0 (by omega)
          have x5 : rdr 7 h2 108 0 = some 109 := s3.now
          have x6 : wra 20 h2 109 (a_add 15 a) V = some (setN h2 108 (C.setS a V)) := s3.ws OC h0 (by omega) V
          have s5 := s3.set (C.setS a V)
          have x7 : rdr 7 (setN h2 108 (C.setS a V)) 108 0 = some 109 := s5.now
          have x8 : rda 20 (setN h2 108 (C.setS a V)) 109 (a_add 15 a) = some V := by
            have := s5.rs (i := a) (ok_setS OC hv.1 hv.2) h0 (by omega)
            rw [si_set OC h0 (by omega) h0, if_pos rfl] at this
            exact this
          rw [k_Mo_drop]
          simp only [x1, m2, x3, x4, s2, x5, Option.bind_some]
          rw [if_neg (by decide), if_neg (by decide), if_neg (by omega), add_id (x := B.si a) (by omega) (by omega)]
          by_cases z : 99 < B.si a + b
          · rw [if_pos z] at hV ⊢
            subst hV
            simp only [x6, x7, x8, Option.bind_some]
          · rw [if_neg z] at hV ⊢
            subst hV
            simp only [x6, x7, x8, Option.bind_some]
      · refine ⟨-4, h, h, ?_, hs, ?_, I⟩
        · rw [k_Ss_drop]
          simp only [iS.r2, c1, c2, c3, Option.bind_some, h99]
          rfl
        · rw [k_Mo_drop]
          simp only [m1 h MN, m2, r1, r2, Option.bind_some]
          rw [if_neg (by decide), if_neg (by decide), if_pos (by omega)]
    · rw [bI_f hb] at c2 m2
      refine ⟨-3, h, h, ?_, hs, ?_, I⟩
      · rw [k_Ss_drop]
        simp only [iS.r2, c1, c2, Option.bind_some]
        rfl
      · rw [k_Mo_drop]
        simp only [m1 h MN, m2, Option.bind_some]
        rfl
  · rw [bI_f hi] at c1 m1
    refine ⟨-2, h, h, ?_, hs, ?_, I⟩
    · rw [k_Ss_drop]
      simp only [iS.r2, c1, Option.bind_some, if_true]
    · rw [k_Mo_drop]
      simp only [m1 h MN, Option.bind_some, if_true]
theorem op_swap (a b : Int) : Op scr m_Ss_swap m_Mo_swap [(0, a), (0, b)] := by
  intro h I
  obtain ⟨hl, hs, ho, le, un, ke, ma, B, C, iS, iM, iN, iT, iP, iK, iX, iF, iW, iI, iB⟩ := id I
  obtain ⟨h1, q1, q2, ⟨un', q3⟩, q4⟩ := both_note hl hs ho iS iM iN iT iP iK iX iF iW iI iB
  obtain ⟨pl, be, to, va, br, la, hm⟩ := iM
  obtain ⟨H, e9, p⟩ := iN
  obtain ⟨G1, G2, g3, E⟩ := id p
  have O := G1.ok
  have OC := G2.ok
  have MN := MnH.of hm e9
  have w5 := O.w5
  have hl1 := q2.lt
  have c1 : ∀ a : Int, cal 58 m_Bd_has [(100, 11), (0, a)] h = some (bI (decide (0 ≤ a ∧ a < 2 * B.w)), h) := fun a => c_has (n := 11) H O a
  have m1 : ∀ (a : Int) (g : AH), MnH g 108 C → cal 58 m_Mo_isHouse [(107, 108), (0, a)] g = some (bI (decide (0 ≤ a ∧ a < 2 * B.w)), g) := by
    intro a g MN
    have := m_isHouse (d := 56) MN OC a
    rw [E.1] at this
    exact this
  by_cases hi : 0 ≤ a ∧ a < 2 * B.w
  · have c1a : cal 58 m_Bd_has [(100, 11), (0, a)] h = some (1, h) := by rw [c1, bI_t hi]
    have m1a : ∀ g : AH, MnH g 108 C → cal 58 m_Mo_isHouse [(107, 108), (0, a)] g = some (1, g) := fun g z => by rw [m1 a g z, bI_t hi]
    by_cases hj : 0 ≤ b ∧ b < 2 * B.w
    · have c1b : cal 58 m_Bd_has [(100, 11), (0, b)] h = some (1, h) := by rw [c1, bI_t hj]
      have m1b : ∀ g : AH, MnH g 108 C → cal 58 m_Mo_isHouse [(107, 108), (0, b)] g = some (1, g) := fun g z => by rw [m1 b g z, bI_t hj]
      by_cases hab : a = b
      · refine ⟨-2, h, h, ?_, hs, ?_, I⟩
        · rw [k_Ss_swap]
          simp only [iS.r2, c1a, c1b, hab, Option.bind_some]
          rfl
        · rw [k_Mo_swap]
          simp only [m1a h MN, m1b h MN, hab, Option.bind_some]
          rfl
      · have ka := ki_r O hi.1 (by omega)
        have kb := ki_r O hj.1 (by omega)
        have k1 : cal 58 m_Bd_kind [(100, 11), (0, a)] h = some (B.ki a, h) := c_kind (n := 11) H O hi.1 (by omega)
        have k2 : cal 58 m_Bd_kind [(100, 11), (0, b)] h = some (B.ki b, h) := c_kind (n := 11) H O hj.1 (by omega)
        have R : ∀ g : AH, MnH g 108 C → rdr 7 g 108 0 = some 109 ∧ rda 20 g 109 (a_add 5 a) = some (B.ki a) ∧ rda 20 g 109 (a_add 5 b) = some (B.ki b) := by
          intro g z
          refine ⟨z.now, ?_, ?_⟩
          · rw [← (E.2.2.2.2.2 a hi.1 hi.2).1]; exact z.rk OC hi.1 (by omega)
          · rw [← (E.2.2.2.2.2 b hj.1 hj.2).1]; exact z.rk OC hj.1 (by omega)
        by_cases hk : B.ki a = B.ki b
        · refine ⟨-4, h, h, ?_, hs, ?_, I⟩
          · rw [k_Ss_swap]
            simp only [iS.r2, c1a, c1b, k1, k2, hab, hk, Option.bind_some]
            rfl
          · rw [k_Mo_swap]
            simp only [m1a h MN, m1b h MN, R h MN, hab, hk, Option.bind_some]
            rfl
        · have O1 : BoOK (B.setK a (B.ki b)) := ok_setK O kb.1 kb.2
          have O2 : BoOK ((B.setK a (B.ki b)).setK b (B.ki a)) := ok_setK O1 ka.1 ka.2
          have c4 : cal 58 m_Bd_exchangeKinds [(100, 11), (0, a), (0, b)] h1 = some (0, setB h1 11 ((B.setK a (B.ki b)).setK b (B.ki a))) := by
            have x1 : rdr 0 h1 11 0 = some 12 := q2.rk
            have x2 : rda 20 h1 12 a = some (B.ki a) := q2.kA O hi.1 (by omega)
            have x3 : rda 20 h1 12 b = some (B.ki b) := q2.kA O hj.1 (by omega)
            have x4 : wra 20 h1 12 a (B.ki b) = some (setB h1 11 (B.setK a (B.ki b))) := q2.wK O hi.1 (by omega) _
            have q5 : BdH (setB h1 11 (B.setK a (B.ki b))) 11 (B.setK a (B.ki b)) := bdH_set hl1
            have x5 : rdr 0 (setB h1 11 (B.setK a (B.ki b))) 11 0 = some 12 := q5.rk
            have x6 : wra 20 (setB h1 11 (B.setK a (B.ki b))) 12 b (B.ki a) = some (setB (setB h1 11 (B.setK a (B.ki b))) 11 ((B.setK a (B.ki b)).setK b (B.ki a))) := q5.wK O1 hj.1 (by omega) _
            rw [setB_setB hl1] at x6
            rw [k_Bd_exchangeKinds]
            simp only [x1, x2, x3, x4, x5, x6, Option.bind_some]
          have c5 : cal 58 m_Bd_kind [(100, 11), (0, a)] (setB h1 11 ((B.setK a (B.ki b)).setK b (B.ki a))) = some (B.ki b, setB h1 11 ((B.setK a (B.ki b)).setK b (B.ki a))) := by
            have := c_kind (d := 57) (n := 11) (bdH_set (B := (B.setK a (B.ki b)).setK b (B.ki a)) hl1) O2 hi.1 (show a < 10 by omega)
            rw [ki_set O1 hj.1 (by omega) hi.1, if_neg (fun z => hab z.symm), ki_set O hi.1 (by omega) hi.1, if_pos rfl] at this
            exact this
          have q3' : SsI (setB h1 11 ((B.setK a (B.ki b)).setK b (B.ki a))) un' := q3.fr (P := fun j => 11 ≤ j ∧ j < 15) (fr_setB hl1 (fun j a b => by omega)) (by omega)
          obtain ⟨s0, s1, h2, s2, s3, s4⟩ := q4 ((B.setK a (B.ki b)).setK b (B.ki a))
          refine ⟨B.ki b, setB h1 11 ((B.setK a (B.ki b)).setK b (B.ki a)), setN h2 108 ((C.setK a (B.ki b)).setK b (B.ki a)), ?_, s0, ?_, s4 _ ((p.setK hi.1 (by omega) kb.1 kb.2).setK hj.1 (by omega) ka.1 ka.2)⟩
          · rw [k_Ss_swap]
            simp only [iS.r2, c1a, c1b, k1, k2, hab, hk, q1, q3.r2, c4, q3'.r2, c5, Option.bind_some]
            rfl
          · have x5 : rdr 7 h2 108 0 = some 109 := s3.now
            have x6 : wra 20 h2 109 (a_add 5 a) (B.ki b) = some (setN h2 108 (C.setK a (B.ki b))) := s3.wk OC hi.1 (by omega) _
            have s5 := s3.set (C.setK a (B.ki b))
            have x7 : rdr 7 (setN h2 108 (C.setK a (B.ki b))) 108 0 = some 109 := s5.now
            have x8 : wra 20 (setN h2 108 (C.setK a (B.ki b))) 109 (a_add 5 b) (B.ki a) = some (setN (setN h2 108 (C.setK a (B.ki b))) 108 ((C.setK a (B.ki b)).setK b (B.ki a))) := s5.wk (ok_setK OC kb.1 kb.2) hj.1 (by omega) _
            rw [setN_setN] at x8
            rw [k_Mo_swap]
            simp only [m1a _ s1, m1b _ s1, R _ s1, hab, hk, s2, x5, x6, x7, x8, Option.bind_some]
            rfl
    · have c1b : cal 58 m_Bd_has [(100, 11), (0, b)] h = some (0, h) := by rw [c1, bI_f hj]
      have m1b : ∀ g : AH, MnH g 108 C → cal 58 m_Mo_isHouse [(107, 108), (0, b)] g = some (0, g) := fun g z => by rw [m1 b g z, bI_f hj]
      refine ⟨-2, h, h, ?_, hs, ?_, I⟩
      · rw [k_Ss_swap]
        simp only [iS.r2, c1a, c1b, Option.bind_some]
        rfl
      · rw [k_Mo_swap]
        simp only [m1a h MN, m1b h MN, Option.bind_some]
        rfl
  · have c1a : cal 58 m_Bd_has [(100, 11), (0, a)] h = some (0, h) := by rw [c1, bI_f hi]
    have m1a : ∀ g : AH, MnH g 108 C → cal 58 m_Mo_isHouse [(107, 108), (0, a)] g = some (0, g) := fun g z => by rw [m1 a g z, bI_f hi]
    refine ⟨-2, h, h, ?_, hs, ?_, I⟩
    · rw [k_Ss_swap]
      simp only [iS.r2, c1a, Option.bind_some]
      rfl
    · rw [k_Mo_swap]
      simp only [m1a h MN, Option.bind_some]
      rfl
end OPS
