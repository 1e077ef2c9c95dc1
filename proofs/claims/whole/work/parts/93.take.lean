/-! put and take. -/
section OPS
variable {scr : List Int}
theorem op_put (a b c : Int) : Op scr m_Ss_put m_Mo_put [(0, a), (0, b), (0, c)] := by
  intro h I
  obtain ⟨hl, hs, ho', le, un, ke, ma, B, C, iS, iM, iN, iT, iP, iK, iX, iF, iW, iI, iB⟩ := id I
  obtain ⟨pl, be, to, va, br, la, hm⟩ := id iM
  obtain ⟨H, e9, p⟩ := id iN
  obtain ⟨G1, G2, g3, E⟩ := id p
  obtain ⟨Z, ro, ho, wh, tg, li, X, M, m, R⟩ := iB.sp hm
  have w5 := G1.1.w5
  have NX : ∀ j, ¬ (53 ≤ j ∧ j < 68) → ¬ XB j := fun j z => z
  have NY : ∀ j, ¬ (123 ≤ j ∧ j < 128) → ¬ YB j := fun j z => z
  have c1 : ∀ x : Int, cal 58 m_Bs_has [(102, 51), (0, x)] h = some (bI (decide (0 ≤ x ∧ x < 5)), h) := fun x => c_bsHas x
  have m1 : ∀ (x : Int) (g : AH), cal 58 m_Mo_isBox [(0, x)] g = some (bI (decide (0 ≤ x ∧ x < 5)), g) := fun x g => m_isBox x
  have c2 : cal 58 m_Bd_has [(100, 11), (0, c)] h = some (bI (decide (0 ≤ c ∧ c < 2 * B.w)), h) := c_has (n := 11) H G1.1 c
  have m2 : ∀ g : AH, g[108]? = some (7, hM le pl be to va br un ke la ma) → g[109]? = some (20, row C) → cal 58 m_Mo_isHouse [(107, 108), (0, c)] g = some (bI (decide (0 ≤ c ∧ c < 2 * B.w)), g) := by
    intro g x y
    have := m_isHouse (d := 56) (MnH.of x y) G2.1 c
    rw [E.1] at this
    exact this
  have c3 : cal 58 m_Ss_isWithin [(0, b), (0, 0), (0, 2)] h = some (bI (decide (0 ≤ b ∧ b ≤ 2)), h) := c_within b 0 2
  have m3 : ∀ g : AH, cal 58 m_Mo_in [(2, b), (2, 0), (2, 2)] g = some (bI (decide (0 ≤ b ∧ b ≤ 2)), g) := fun g => m_in b 0 2
  have c4 : cal 58 m_Ss_isWithin [(0, c), (0, -9999), (0, 9999)] h = some (bI (decide (-9999 ≤ c ∧ c ≤ 9999)), h) := c_within c (-9999) 9999
  have m4 : ∀ g : AH, cal 58 m_Mo_in [(2, c), (2, -9999), (2, 9999)] g = some (bI (decide (-9999 ≤ c ∧ c ≤ 9999)), g) := fun g => m_in c (-9999) 9999
  -- where it comes to laying in
  have LAY : 0 ≤ a ∧ a < 5 → ((b = 0 ∧ -9999 ≤ c ∧ c ≤ 9999) ∨ (b = 1 ∧ 0 ≤ c ∧ c < 10) ∨ (b = 2 ∧ 0 ≤ c ∧ c < 5)) → (∀ q : Int × AH, cal 58 m_Bs_lay [(102, 51), (0, a), (0, b), (0, c)] h = some q → cal 59 m_Ss_put [(106, 2), (0, a), (0, b), (0, c)] h = some q) → (∀ (g : AH), Fr XB h g → cal 59 m_Mo_put [(107, 108), (0, a), (0, b), (0, c)] g = run 59 m_Mo_put 68 [(107, 108), (0, a), (0, b), (0, c), (9, 0)] [] g) → ∃ (v : Int) (h1 h2 : AH), cal 59 m_Ss_put [(106, 2), (0, a), (0, b), (0, c)] h = some (v, h1) ∧ h1[0]? = some (26, scr) ∧ cal 59 m_Mo_put [(107, 108), (0, a), (0, b), (0, c)] h1 = some (v, h2) ∧ Inv scr h2 := by
    intro ha ok s1 s2
    obtain ⟨x, rfl⟩ : ∃ x : Nat, a = (x : Int) := ⟨a.toNat, by omega⟩
    obtain ⟨v, h1, h2, q1, q2, q3, T1, T2⟩ := both_lay hm X M m R (show x < 5 by omega) ok
    have T : Fr (fun j => (53 ≤ j ∧ j < 68) ∨ (123 ≤ j ∧ j < 130)) h h2 := (T1.wd (fun j z => by unfold XB at z; omega)).tr (T2.wd (fun j z => by unfold YB at z; omega))
    obtain ⟨-, -, -, -, -, -, -, -, w9, w10⟩ := id iW
    exact ⟨v, h1, h2, s1 _ q1, by rw [T1.g _ (NX _ (by omega))]; exact hs, (s2 h1 T1).trans q2, inv_bx hl hs ho' iS iM iN iT iP iK iX iF iW iI T ((w9.fr T1 (NX _ (by omega))).fr T2 (NY _ (by omega))) ((w10.fr T1 (NX _ (by omega))).fr T2 (NY _ (by omega))) q3⟩
  have ms : ∀ v : Int, cal 59 m_Ss_put [(106, 2), (0, a), (0, b), (0, c)] h = some (v, h) → cal 59 m_Mo_put [(107, 108), (0, a), (0, b), (0, c)] h = some (v, h) → ∃ (v : Int) (h1 h2 : AH), cal 59 m_Ss_put [(106, 2), (0, a), (0, b), (0, c)] h = some (v, h1) ∧ h1[0]? = some (26, scr) ∧ cal 59 m_Mo_put [(107, 108), (0, a), (0, b), (0, c)] h1 = some (v, h2) ∧ Inv scr h2 := fun v x y => ⟨v, h, h, x, hs, y, I⟩
  have c1a := c1 a
  have m1a := m1 a
  have c1c := c1 c
  have m1c := m1 c
  by_cases b1 : b = 1
  · subst b1
    rw [bI_t (show (0 : Int) ≤ 1 ∧ (1 : Int) ≤ 2 by decide)] at c3 m3
    by_cases hc : 0 ≤ c ∧ c < 2 * B.w
    · rw [bI_t hc] at c2 m2
      by_cases ha : 0 ≤ a ∧ a < 5
      · rw [bI_t ha] at c1a m1a
        refine LAY ha (Or.inr (Or.inl ⟨rfl, by omega, by omega⟩)) (fun q hq => ?_) (fun g T => ?_)
        · rw [k_Ss_put]
          simp only [iS.r2, c2, Option.bind_some]
          rw [if_true, if_neg (by decide), k_Ss_put_20, if_neg (by decide), k_Ss_put_43]
          simp only [iS.r9, c1a, c3, hq, Option.bind_some]
          rw [if_neg (by decide), if_pos (by decide), if_neg (by decide), if_neg (by decide)]
        · rw [k_Mo_put]
          simp only [m1a, m2 g (by rw [T.g _ (NX _ (by omega))]; exact hm) (by rw [T.g _ (NX _ (by omega))]; exact e9), m3, Option.bind_some]
          rw [if_neg (by decide), if_true, if_neg (by decide), if_neg (by decide), if_neg (by decide), if_neg (by decide)]
      · rw [bI_f ha] at c1a m1a
        refine ms (-2) ?_ ?_
        · rw [k_Ss_put]
          simp only [iS.r2, c2, Option.bind_some]
          rw [if_true, if_neg (by decide), k_Ss_put_20, if_neg (by decide), k_Ss_put_43]
          simp only [iS.r9, c1a, Option.bind_some]
          rw [if_true]
        · rw [k_Mo_put]
          simp only [m1a, Option.bind_some]
          rw [if_true]
    · rw [bI_f hc] at c2 m2
      refine ms (-2) ?_ ?_
      · rw [k_Ss_put]
        simp only [iS.r2, c2, Option.bind_some]
        rw [if_true, if_true, if_neg (by decide), k_Ss_put_43]
        simp only [iS.r9, c1a, Option.bind_some]
        rw [if_neg (show ¬ (1 : Int) = 0 by decide)]
        exact ifs.trans (by rw [ite_self])
      · rw [k_Mo_put]
        simp only [m1a, m2 h hm e9, Option.bind_some]
        rw [if_true, if_true]
        exact ifs.trans (by rw [ite_self])
  · have P20 : cal 59 m_Ss_put [(106, 2), (0, a), (0, b), (0, c)] h = run 59 m_Ss_put 20 [(106, 2), (0, a), (0, b), (0, c), (9, 0), (9, 0), (9, 0)] [] h := by
      rw [k_Ss_put, if_neg b1]
    by_cases b2 : b = 2
    · subst b2
      rw [bI_t (show (0 : Int) ≤ 2 ∧ (2 : Int) ≤ 2 by decide)] at c3 m3
      by_cases hc : 0 ≤ c ∧ c < 5
      · rw [bI_t hc] at c1c m1c
        by_cases ha : 0 ≤ a ∧ a < 5
        · rw [bI_t ha] at c1a m1a
          refine LAY ha (Or.inr (Or.inr ⟨rfl, hc⟩)) (fun q hq => ?_) (fun g T => ?_)
          · rw [P20, k_Ss_put_20]
            simp only [iS.r9, c1c, Option.bind_some]
            rw [if_true, if_neg (by decide), k_Ss_put_43]
            simp only [iS.r9, c1a, c3, hq, Option.bind_some]
            rw [if_neg (by decide), if_pos (by decide), if_neg (by decide), if_neg (by decide)]
          · rw [k_Mo_put]
            simp only [m1a, m1c, m3, Option.bind_some]
            rw [if_neg (by decide), if_neg (by decide), if_true, if_neg (by decide), if_neg (by decide), if_neg (by decide)]
        · rw [bI_f ha] at c1a m1a
          refine ms (-2) ?_ ?_
          · rw [P20, k_Ss_put_20]
            simp only [iS.r9, c1c, Option.bind_some]
            rw [if_true, if_neg (by decide), k_Ss_put_43]
            simp only [iS.r9, c1a, Option.bind_some]
            rw [if_true]
          · rw [k_Mo_put]
            simp only [m1a, Option.bind_some]
            rw [if_true]
      · rw [bI_f hc] at c1c m1c
        refine ms (-2) ?_ ?_
        · rw [P20, k_Ss_put_20]
          simp only [iS.r9, c1c, c1a, Option.bind_some]
          rw [if_true, if_true]
          exact ifs.trans (by rw [ite_self])
        · rw [k_Mo_put]
          simp only [m1a, m1c, Option.bind_some]
          rw [if_neg (show ¬ (2 : Int) = 1 by decide), if_true, if_true]
          exact ifs.trans (by rw [ite_self])
    · have P43 : cal 59 m_Ss_put [(106, 2), (0, a), (0, b), (0, c)] h = run 59 m_Ss_put 43 [(106, 2), (0, a), (0, b), (0, c), (0, 0), (9, 0), (9, 0)] [] h := by
        rw [P20, k_Ss_put_20, if_neg b2]
      by_cases ha : 0 ≤ a ∧ a < 5
      · rw [bI_t ha] at c1a m1a
        by_cases b0 : b = 0
        · subst b0
          rw [bI_t (show (0 : Int) ≤ 0 ∧ (0 : Int) ≤ 2 by decide)] at c3 m3
          by_cases hc : -9999 ≤ c ∧ c ≤ 9999
          · rw [bI_t hc] at c4 m4
            refine LAY ha (Or.inl ⟨rfl, hc⟩) (fun q hq => ?_) (fun g T => ?_)
            · rw [P43, k_Ss_put_43]
              simp only [iS.r9, c1a, c3, c4, hq, Option.bind_some]
              rw [if_neg (by decide), if_true, if_true, if_neg (by decide), if_neg (by decide)]
            · rw [k_Mo_put]
              simp only [m1a, m3, m4, Option.bind_some]
              rw [if_neg (by decide), if_neg (by decide), if_neg (by decide), if_neg (by decide), if_true, if_neg (by decide)]
          · rw [bI_f hc] at c4 m4
            refine ms (-3) ?_ ?_
            · rw [P43, k_Ss_put_43]
              simp only [iS.r9, c1a, c3, c4, Option.bind_some]
              rw [if_neg (by decide), if_true, if_true, if_true, if_neg (by decide)]
            · rw [k_Mo_put]
              simp only [m1a, m3, m4, Option.bind_some]
              rw [if_neg (by decide), if_neg (by decide), if_neg (by decide), if_neg (by decide), if_true, if_true]
        · have nb : ¬ (0 ≤ b ∧ b ≤ 2) := by omega
          rw [bI_f nb] at c3 m3
          refine ms (-3) ?_ ?_
          · rw [P43, k_Ss_put_43]
            simp only [iS.r9, c1a, c3, Option.bind_some]
            rw [if_neg (by decide), if_true, if_neg b0, if_true]
          · rw [k_Mo_put]
            simp only [m1a, m3, Option.bind_some]
            rw [if_neg (by decide), if_neg b1, if_neg b2, if_true]
      · rw [bI_f ha] at c1a m1a
        refine ms (-2) ?_ ?_
        · rw [P43, k_Ss_put_43]
          simp only [iS.r9, c1a, Option.bind_some]
          rw [if_true]
        · rw [k_Mo_put]
          simp only [m1a, Option.bind_some]
          rw [if_true]
end OPS
