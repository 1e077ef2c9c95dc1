/-! count. -/
noncomputable def thF (Z : Nat → Bk) : Nat → Int → Nat → Int
  | 0, x, _ => x
  | k + 1, x, c => thF Z k (if (Z c).t = 1 then a_or x (a_shl 1 (c : Int)) else a_or x 0) (c + 1)
theorem EqB.sum {B C : Bo} (E : EqB B C) : ∀ (k : Nat) (x c : Int), 0 ≤ c → c + (k : Int) = 2 * B.w → sumF C k x c = sumF B k x c := by
  intro k
  induction k with
  | zero => intro x c _ _; rfl
  | succ k ih =>
    intro x c h0 h1
    show sumF C k (x + C.si c) (c + 1) = sumF B k (x + B.si c) (c + 1)
    rw [(E.2.2.2.2.2 c h0 (by omega)).2]
    exact ih _ _ (by omega) (by omega)
theorem EqB.gof {B C : Bo} (E : EqB B C) : ∀ (k : Nat) (x c : Int), 0 ≤ c → c + (k : Int) = 2 * B.w → goF C k x c = goF B k x c := by
  intro k
  induction k with
  | zero => intro x c _ _; rfl
  | succ k ih =>
    intro x c h0 h1
    show goF C k (if C.go c = true then a_or x (a_shl 1 c) else a_or x 0) (c + 1) = goF B k (if B.go c = true then a_or x (a_shl 1 c) else a_or x 0) (c + 1)
    rw [E.go h0 (by omega)]
    exact ih _ _ (by omega) (by omega)
section CNT2
variable {Z : Nat → Bk} {d : Nat} {h : AH}
theorem c_th4 (X : XH h Z) (m : ZM Z) : ∀ (k c : Nat) (x : Int), c + k = 5 → run (d + 2) m_Bs_thereBits 4 [(102, 51), (0, x), (0, (c : Int))] [] h = some (thF Z k x c, h) := by
  intro k
  induction k with
  | zero => intro c x ck; rw [k_Bs_thereBits_4, if_neg (by omega)]; rfl
  | succ k ih =>
    intro c x ck
    have mc := m.1 c (by omega)
    have r : cal (d + 1) m_Bs_isThere [(102, 51), (0, (c : Int))] h = some ((Z c).t, h) := by
      rw [k_Bs_isThere]; simp only [X.ra, X.rb (show c < 5 by omega), X.f4 (show c < 5 by omega), Option.bind_some]
      rcases mc.1 with z | z
      · rw [z]; rfl
      · rw [z]; rfl
    rw [k_Bs_thereBits_4, if_pos (by omega), r, Option.bind_some, add_id (by omega) (by omega), show (c : Int) + 1 = ((c + 1 : Nat) : Int) by omega]
    show (if (Z c).t = 0 then _ else _) = some (thF Z k (if (Z c).t = 1 then a_or x (a_shl 1 (c : Int)) else a_or x 0) (c + 1), h)
    by_cases z : (Z c).t = 0
    · rw [if_pos z, if_neg (by omega)]; exact ih _ _ (by omega)
    · rw [if_neg z, if_pos (by omega)]; exact ih _ _ (by omega)
theorem m_th4 {hd ro ho wh tg li : List Int} (M : ML h hd ro ho wh tg li) (m : ZM Z) (R : ZR Z ro ho wh tg li) : ∀ (k c : Nat) (x : Int), c + k = 5 → run (d + 1) m_Mo_boxesThere 4 [(107, 108), (0, x), (0, (c : Int))] [] h = some (thF Z k x c, h) := by
  intro k
  induction k with
  | zero => intro c x ck; rw [k_Mo_boxesThere_4, if_neg (by omega)]; rfl
  | succ k ih =>
    intro c x ck
    have mc := m.1 c (by omega)
    have rR := M.rR (i := (c : Int)) (by omega) (by omega)
    rw [Int.toNat_natCast, (R c (by omega)).1] at rR
    rw [k_Mo_boxesThere_4, if_pos (by omega), M.a24, Option.bind_some, rR, Option.bind_some, add_id (by omega) (by omega), show (c : Int) + 1 = ((c + 1 : Nat) : Int) by omega]
    show _ = some (thF Z k (if (Z c).t = 1 then a_or x (a_shl 1 (c : Int)) else a_or x 0) (c + 1), h)
    by_cases z : (Z c).t = 1
    · have := mc.2.2.2.2.2.1 z
      rw [if_pos z, if_pos z, if_neg (by omega)]; exact ih _ _ (by omega)
    · rw [if_neg z, if_neg z, if_pos (by omega)]; exact ih _ _ (by omega)
end CNT2
section OPS
variable {scr : List Int}
theorem op_count (a : Int) : Op scr m_Ss_count m_Mo_count [(0, a)] := by
  intro h I
  obtain ⟨hl, hs, ho', le, un, ke, ma, B, C, iS, iM, iN, iT, iP, iK, iX, iF, iW, iI, iB⟩ := id I
  obtain ⟨pl, be, to, va, br, la, hm⟩ := id iM
  obtain ⟨Z, ro, ho, wh, tg, li, X, M, m, R⟩ := iB.sp hm
  obtain ⟨H, e9, p⟩ := id iN
  obtain ⟨G1, G2, g3, E⟩ := id p
  obtain ⟨-, -, L, -, -, -, -, cl, st, en, eT⟩ := id iX
  obtain ⟨-, -, s1, s2, s3, s4, s5, eS, -⟩ := id iI
  have O := G1.ok
  have OC := G2.ok
  have MN := MnH.of hm e9
  have w5 := O.w5
  have w2 := O.w2
  have c0 : cal 58 m_Bd_houses [(100, 11)] h = some (2 * B.w, h) := c_houses (n := 11) H O
  have c1 : cal 58 m_Bd_moves [(100, 11)] h = some (B.m, h) := c_moves (n := 11) H
  have c2 : cal 58 m_Bd_turn [(100, 11)] h = some (B.t, h) := c_turn (n := 11) H
  have c3 : cal 58 m_Bd_barn [(100, 11), (0, 0)] h = some (B.b0, h) := c_barn (n := 11) H (Or.inl rfl)
  have c4 : cal 58 m_Bd_barn [(100, 11), (0, 1)] h = some (B.b1, h) := c_barn (n := 11) H (Or.inr rfl)
  have c5 : cal 58 m_Bd_allSeeds [(100, 11)] h = some (sumF B (2 * B.w).toNat 0 0, h) := by
    rw [k_Bd_allSeeds]; exact c_all4 (n := 11) (d := 56) H O _ 0 0 (by omega) (by omega) (by omega) (by omega)
  have c6 : cal 58 m_Bd_goingBits [(100, 11)] h = some (goF B (2 * B.w).toNat 0 0, h) := by
    rw [k_Bd_goingBits]; exact c_go4 (n := 11) (d := 54) H O _ 0 0 (by omega) (by omega)
  have c7 : cal 58 m_Si_size [(104, 46)] h = some (ma, h) := by rw [k_Si_size, show rdf 4 h 46 4 = some ma from rdf_n (n := 46) eS 4]; rfl
  have c8 : cal 58 m_Bs_thereBits [(102, 51)] h = some (thF Z 5 0 0, h) := by
    rw [k_Bs_thereBits]; exact c_th4 (d := 56) X m 5 0 0 (by omega)
  have c10 : cal 58 m_Te_length [(105, 18)] h = some (le, h) := by rw [k_Te_length, show rdf 5 h 18 1 = some le from rdf_n (n := 18) eT 1]; rfl
  have r0 : rdr 7 h 108 0 = some 109 := MN.now
  have m0 : rda 20 h 109 0 = some B.w := by rw [← E.1]; exact MN.rw0
  have m1 : rda 20 h 109 4 = some B.m := by rw [← E.2.2.2.2.1]; exact MN.rm
  have m2 : rda 20 h 109 1 = some B.t := by rw [← E.2.1]; exact MN.rt
  have m3 : rda 20 h 109 2 = some B.b0 := by rw [← E.2.2.1]; exact MN.rb0
  have m4 : rda 20 h 109 3 = some B.b1 := by rw [← E.2.2.2.1]; exact MN.rb1
  have m5 : cal 58 m_Mo_seedsOfAll [(107, 108)] h = some (sumF B (2 * B.w).toNat 0 0, h) := by
    rw [k_Mo_seedsOfAll, ← E.sum _ 0 0 (by omega) (by omega)]
    exact m_all4 (q := 108) (d := 57) MN OC _ 0 0 (by omega) (by rw [E.1]; omega) (by omega) (by omega)
  have m6 : cal 58 m_Mo_goers [(107, 108)] h = some (goF B (2 * B.w).toNat 0 0, h) := by
    rw [k_Mo_goers, ← E.gof _ 0 0 (by omega) (by omega)]
    exact m_go4 (q := 108) (d := 54) MN OC _ 0 0 (by omega) (by rw [E.1]; omega)
  have m7 : rdf 7 h 108 23 = some ma := hmf hm rfl
  have m8 : cal 58 m_Mo_boxesThere [(107, 108)] h = some (thF Z 5 0 0, h) := by
    rw [k_Mo_boxesThere]; exact m_th4 (d := 57) M m R 5 0 0 (by omega)
  have m9 : rdf 7 h 108 11 = some un := hmf hm rfl
  have m10 : rdf 7 h 108 3 = some le := hmf hm rfl
  refine ⟨if a = 0 then 2 * B.w else if a = 1 then B.m else if a = 2 then B.t else if a = 3 then B.b0 else if a = 4 then B.b1 else if a = 5 then sumF B (2 * B.w).toNat 0 0 else if a = 6 then goF B (2 * B.w).toNat 0 0 else if a = 7 then ma else if a = 8 then thF Z 5 0 0 else if a = 9 then un else if a = 10 then le else -3, h, h, ?_, hs, ?_, I⟩
  · rw [k_Ss_count]
    simp only [iS.r2, iS.r8, iS.r9, iS.r6, iS.ru, c0, c1, c2, c3, c4, c5, c6, c7, c8, c10, Option.bind_some, ifs]
  · rw [k_Mo_count]
    simp only [r0, m0, m1, m2, m3, m4, m5, m6, m7, m8, m9, m10, mul_id (x := 2) (y := B.w) (by omega) (by omega), Option.bind_some, ifs]
end OPS
