/-! put. -/
section LAY
variable {Z : Nat → Bk} {i : Nat} {h : AH} {le pl be to va br un ke la ma : Int} {ro ho wh tg li : List Int}
/-- the model's rows behind a thing laid in -/
theorem m_lay68 {hd : List Int} {wt vl : Int} (hi : i < 5) (M : ML h hd ro ho wh tg li) (m : ZM Z) (R : ZR Z ro ho wh tg li) (s4 : (Z i).s < 4) : ∃ h3 : AH, (∀ K : AH → AR, ((rdr 7 h 108 26).bind (fun y2 => (rdr 7 h 108 25).bind (fun y3 => (rda 20 h y3 (i : Int)).bind (fun y4 => (wra 20 h y2 (a_add (a_mul 4 (i : Int)) y4) wt).bind (fun h5 => (rdr 7 h5 108 27).bind (fun y6 => (rdr 7 h5 108 25).bind (fun y7 => (rda 20 h5 y7 (i : Int)).bind (fun y8 => (wra 20 h5 y6 (a_add (a_mul 4 (i : Int)) y8) vl).bind (fun h9 => (rdr 7 h9 108 25).bind (fun y10 => (rda 20 h9 y10 (i : Int)).bind (fun y11 => (wra 20 h9 y10 (i : Int) (a_add y11 1)).bind (fun h12 => K h12)))))))))))) = K h3) ∧ ML h3 hd ro (ho.set i ((Z i).s + 1)) (wh.set (4 * i + (Z i).s.toNat) wt) (tg.set (4 * i + (Z i).s.toNat) vl) li ∧ Fr YB h h3 := by
  have s0 := (m.1 i hi).2.1
  have rH : ∀ g wh tg, ML g hd ro ho wh tg li → rda 20 g 124 (i : Int) = some (Z i).s := by
    intro g wh tg M
    have := M.rH (i := (i : Int)) (by omega) (by omega)
    rw [Int.toNat_natCast, (R i hi).2.1] at this
    exact this
  obtain ⟨h1, a1, M1, T1⟩ := M.wW (i := 4 * (i : Int) + (Z i).s) (by omega) (by omega) wt
  obtain ⟨h2, a2, M2, T2⟩ := M1.wT (i := 4 * (i : Int) + (Z i).s) (by omega) (by omega) vl
  obtain ⟨h3, a3, M3, T3⟩ := M2.wH (i := (i : Int)) (by omega) (by omega) ((Z i).s + 1)
  rw [Int.toNat_natCast, show (4 * (i : Int) + (Z i).s).toNat = 4 * i + (Z i).s.toNat by omega] at M3
  refine ⟨h3, fun K => ?_, M3, (T1.tr T2).tr T3⟩
  simp only [M.a26, M.a25, rH h _ _ M, Option.bind_some]
  rw [mul_id (by omega) (by omega), add_id (x := 4 * (i : Int)) (by omega) (by omega), a1]
  simp only [M1.a27, M1.a25, rH h1 _ _ M1, Option.bind_some]
  rw [add_id (x := 4 * (i : Int)) (by omega) (by omega), a2]
  simp only [M2.a25, rH h2 _ _ M2, Option.bind_some]
  rw [add_id (x := (Z i).s) (by omega) (by omega), a3, Option.bind_some]
theorem ZR.push {wt vl : Int} (hi : i < 5) (m : ZM Z) (R : ZR Z ro ho wh tg li) (s4 : (Z i).s < 4) (lh : ho.length = 5) (lw : wh.length = 20) (lt : tg.length = 20) : ZR (zu Z i (psh (Z i) wt vl)) ro (ho.set i ((Z i).s + 1)) (wh.set (4 * i + (Z i).s.toNat) wt) (tg.set (4 * i + (Z i).s.toNat) vl) li := by
  have mi := m.1 i hi
  intro j hj
  have mj := m.1 j hj
  rw [gds (by omega)]
  by_cases z : j = i
  · subst z
    rw [zu_s, if_pos rfl]
    refine ⟨(R j hj).1, rfl, (R j hj).2.2.1, fun k hk => ?_⟩
    have hk : (k : Int) < (Z j).s + 1 := hk
    by_cases e : k = (Z j).s.toNat
    · have nw := psh_new (wt := wt) (vl := vl) mi.2.1 s4 mi.2.2.2.1 mi.2.2.2.2.1
      rw [e, nw.1, nw.2, gds (by omega), gds (by omega), if_pos rfl, if_pos rfl]
      exact ⟨rfl, rfl⟩
    · have o := psh_old (wt := wt) (vl := vl) mi.2.1 (show (k : Int) < (Z j).s by omega)
      rw [o.1, o.2, gd_ne (by omega), gd_ne (by omega)]
      exact (R j hj).2.2.2 k (by omega)
  · rw [zu_n z, if_neg (show ¬ i = j from fun y => z y.symm)]
    refine ⟨(R j hj).1, (R j hj).2.1, (R j hj).2.2.1, fun k hk => ?_⟩
    rw [gd_ne (by omega), gd_ne (by omega)]
    exact (R j hj).2.2.2 k hk
end LAY
theorem put_neg {a b c v : Int} {g : AH} (hv : v < 0) (wn : cal 58 m_Mo_whyNotPut [(107, 108), (0, a), (0, b), (0, c)] g = some (v, g)) : run 59 m_Mo_put 68 [(107, 108), (0, a), (0, b), (0, c), (9, 0)] [] g = some (v, g) := by
  rw [k_Mo_put_68, wn, Option.bind_some, if_pos hv]
section OPS
variable {scr : List Int}
/-- laying in, on both sides -/
theorem both_lay {h : AH} {Z : Nat → Bk} {le pl be to va br un ke la ma : Int} {ro ho wh tg li : List Int} {i : Nat} {wt vl : Int} (hm : h[108]? = some (7, hM le pl be to va br un ke la ma)) (X : XH h Z) (M : ML h (hM le pl be to va br un ke la ma) ro ho wh tg li) (m : ZM Z) (R : ZR Z ro ho wh tg li) (hi : i < 5) (ok : (wt = 0 ∧ -9999 ≤ vl ∧ vl ≤ 9999) ∨ (wt = 1 ∧ 0 ≤ vl ∧ vl < 10) ∨ (wt = 2 ∧ 0 ≤ vl ∧ vl < 5)) :
    ∃ (v : Int) (h1 h2 : AH), cal 58 m_Bs_lay [(102, 51), (0, (i : Int)), (0, wt), (0, vl)] h = some (v, h1) ∧ run 59 m_Mo_put 68 [(107, 108), (0, (i : Int)), (0, wt), (0, vl), (9, 0)] [] h1 = some (v, h2) ∧ BxI h2 ∧ Fr XB h h1 ∧ Fr YB h1 h2 := by
  have mi := m.1 i hi
  have NX : ∀ j, ¬ (53 ≤ j ∧ j < 68) → ¬ XB j := fun j z => z
  have NY : ∀ j, ¬ (123 ≤ j ∧ j < 128) → ¬ YB j := fun j z => z
  obtain ⟨l1, l2, l3, l4, l5⟩ := M.c.2.2.2.2.2
  have ML' : ∀ g : AH, Fr XB h g → ML g (hM le pl be to va br un ke la ma) ro ho wh tg li := by
    intro g T
    have G : ∀ j, 68 ≤ j → g[j]? = h[j]? := fun j z => T.g j (NX j (by omega))
    exact ⟨by rw [G _ (by omega)]; exact hm, rfl, rfl, rfl, rfl, rfl, by rw [G _ (by omega)]; exact M.c.1, by rw [G _ (by omega)]; exact M.c.2.1, by rw [G _ (by omega)]; exact M.c.2.2.1, by rw [G _ (by omega)]; exact M.c.2.2.2.1, by rw [G _ (by omega)]; exact M.c.2.2.2.2.1, M.c.2.2.2.2.2⟩
  have B0 : BxI h := BxI.jn X M m R
  have rR : ∀ g : AH, ML g (hM le pl be to va br un ke la ma) ro ho wh tg li → ∀ j : Nat, j < 5 → rda 20 g 123 (j : Int) = some (if (Z j).t = 1 then (Z j).r else -1) := by
    intro g M j hj
    have := M.rR (i := (j : Int)) (by omega) (by omega)
    rw [Int.toNat_natCast, (R j hj).1] at this
    exact this
  have rH : ∀ g : AH, ML g (hM le pl be to va br un ke la ma) ro ho wh tg li → rda 20 g 124 (i : Int) = some (Z i).s := by
    intro g M
    have := M.rH (i := (i : Int)) (by omega) (by omega)
    rw [Int.toNat_natCast, (R i hi).2.1] at this
    exact this
  by_cases w2 : wt = 2
  · subst w2
    have v5 : 0 ≤ vl ∧ vl < 5 := by omega
    obtain ⟨y, rfl⟩ : ∃ y : Nat, vl = (y : Int) := ⟨vl.toNat, by omega⟩
    have hy : y < 5 := by omega
    have hh : cal 57 m_Bs_has [(102, 51), (0, (y : Int))] h = some (1, h) := by rw [c_bsHas, bI_t v5]
    have rL : ∀ g : AH, ML g (hM le pl be to va br un ke la ma) ro ho wh tg li → rda 20 g 127 (y : Int) = some (Z y).n := by
      intro g M
      have := M.rL (i := (y : Int)) (by omega) (by omega)
      rw [Int.toNat_natCast, (R y hy).2.2.1] at this
      exact this
    have H0 : cal 58 m_Bs_lay [(102, 51), (0, (i : Int)), (0, 2), (0, (y : Int))] h = if (Z y).n = -1 then run 58 m_Bs_lay 49 [(102, 51), (0, (i : Int)), (0, 2), (0, (y : Int)), (101, ((53 + 3 * i : Nat) : Int)), (0, 1)] [] h else some (-4, h) := by
      rw [k_Bs_lay]
      simp only [X.ra, X.rb hi, hh, X.rb hy, X.f5 hy, Option.bind_some]
      rfl
    by_cases n1 : (Z y).n = -1
    · rw [if_pos n1] at H0
      have WN : ∀ g : AH, ML g (hM le pl be to va br un ke la ma) ro ho wh tg li → cal 58 m_Mo_whyNotPut [(107, 108), (0, (i : Int)), (0, 2), (0, (y : Int))] g = run 58 m_Mo_whyNotPut 30 [(107, 108), (0, (i : Int)), (0, 2), (0, (y : Int)), (0, 1)] [] g := by
        intro g M
        rw [k_Mo_whyNotPut, if_pos rfl, M.a28, Option.bind_some, rL g M, Option.bind_some, if_pos n1]
      by_cases t0 : (Z i).t = 0
      · refine ⟨-11, h, h, ?_, ?_, B0, Fr.rf, Fr.rf⟩
        · rw [H0, k_Bs_lay_49, X.f4 hi, Option.bind_some, if_pos t0]
        · have wn : cal 58 m_Mo_whyNotPut [(107, 108), (0, (i : Int)), (0, 2), (0, (y : Int))] h = some (-11, h) := by
            rw [WN h M, k_Mo_whyNotPut_30, M.a24, Option.bind_some, rR h M i hi, Option.bind_some, if_neg (show ¬ (Z i).t = 1 by omega), if_pos (by omega)]
          exact put_neg (by decide) wn
      · have t1 : (Z i).t = 1 := by omega
        have r4 := mi.2.2.2.2.2.1 t1
        have it : cal 57 m_Bs_isThere [(102, 51), (0, (y : Int))] h = some ((Z y).t, h) := c_isThere X m hy
        by_cases ty : (Z y).t = 0
        · refine ⟨-11, h, h, ?_, ?_, B0, Fr.rf, Fr.rf⟩
          · rw [H0, k_Bs_lay_49, X.f4 hi, Option.bind_some, if_neg t0, if_neg (by decide), it, Option.bind_some, if_pos ty]
          · have wn : cal 58 m_Mo_whyNotPut [(107, 108), (0, (i : Int)), (0, 2), (0, (y : Int))] h = some (-11, h) := by
              rw [WN h M, k_Mo_whyNotPut_30]
              simp only [M.a24, rR h M i hi, rR h M y hy, Option.bind_some]
              rw [if_pos t1, if_neg (by omega), if_neg (by decide), if_neg (show ¬ (Z y).t = 1 by omega), if_pos (by omega)]
            exact put_neg (by decide) wn
        · have ty1 : (Z y).t = 1 := by have := (m.1 y hy).1; omega
          have ry := (m.1 y hy).2.2.2.2.2.1 ty1
          have sy := (m.1 y hy).2.1
          by_cases sr : (Z i).s < (Z i).r
          · have sU : cal 57 m_Bs_stepsUp [(102, 51), (0, (i : Int)), (0, (y : Int))] h = some (su Z 5 (i : Int) (y : Int) 0, h) := c_stepsUp X m ⟨by omega, by omega⟩
            have WN2 : ∀ g : AH, ML g (hM le pl be to va br un ke la ma) ro ho wh tg li → cal 58 m_Mo_whyNotPut [(107, 108), (0, (i : Int)), (0, 2), (0, (y : Int))] g = some (if su Z 5 (i : Int) (y : Int) 0 = -1 then 0 else -15, g) := by
              intro g M
              have iw : cal 57 m_Mo_isWithin [(107, 108), (0, (i : Int)), (0, (y : Int))] g = some (if su Z 5 (i : Int) (y : Int) 0 = -1 then 0 else 1, g) := m_isWithin M R m (by omega) ⟨by omega, by omega⟩
              rw [WN g M, k_Mo_whyNotPut_30]
              simp only [M.a24, M.a25, rR g M i hi, rR g M y hy, rH g M, iw, Option.bind_some]
              rw [if_pos t1, if_neg (by omega), if_neg (by decide), if_pos ty1, if_neg (by omega), if_neg (by omega), if_neg (by decide)]
              by_cases e : su Z 5 (i : Int) (y : Int) 0 = -1
              · rw [if_pos e, if_pos e, if_pos rfl]
              · rw [if_neg e, if_neg e, if_neg (by decide)]
            by_cases e : su Z 5 (i : Int) (y : Int) 0 = -1
            · obtain ⟨h1, p1, X1, T1⟩ := c_push (d := 56) (wt := 2) (vl := (y : Int)) X m hi (by omega)
              obtain ⟨h2, p2, X2, T2⟩ := X1.wn hy (i : Int)
              have yi : y ≠ i := by
                intro q
                subst q
                have : su Z 5 (y : Int) (y : Int) 0 = 0 := by
                  show (if (y : Int) = -1 then (-1 : Int) else if (y : Int) = (y : Int) then 0 else _) = 0
                  rw [if_neg (by omega), if_pos rfl]
                omega
              have f3 : rdf 1 h2 ((53 + 3 * i : Nat) : Int) 3 = some ((Z i).s + 1) := by
                have := X2.f3 hi
                rw [zu_n (fun q => yi q.symm), zu_s] at this
                exact this
              have T12 : Fr XB h h2 := T1.tr T2
              have M2 := ML' h2 T12
              obtain ⟨h3, K3, M3, T3⟩ := m_lay68 (wt := 2) (vl := (y : Int)) hi M2 m R (by omega)
              obtain ⟨h4, a4, M4, T4⟩ := M3.wL (i := (y : Int)) (by omega) (by omega) (i : Int)
              rw [Int.toNat_natCast] at M4
              have rH4 : rda 20 h4 124 (i : Int) = some ((Z i).s + 1) := by
                have := M4.rH (i := (i : Int)) (by omega) (by omega)
                rw [Int.toNat_natCast, gds (by omega), if_pos rfl] at this
                exact this
              have mZ := m.boxed hi t1 sr hy n1 e
              have RZ := ZR.push (wt := 2) (vl := (y : Int)) hi m R (by omega) l2 l3 l4
              have RZ2 : ZR (zu (zu Z i (psh (Z i) 2 (y : Int))) y (lay (zu Z i (psh (Z i) 2 (y : Int)) y) (i : Int))) ro (ho.set i ((Z i).s + 1)) (wh.set (4 * i + (Z i).s.toNat) 2) (tg.set (4 * i + (Z i).s.toNat) (y : Int)) (li.set y (i : Int)) := by
                intro j hj
                rw [gds (l := li) (by omega)]
                by_cases z : j = y
                · subst z
                  rw [zu_s, if_pos rfl]
                  exact ⟨(RZ j hj).1, (RZ j hj).2.1, rfl, (RZ j hj).2.2.2⟩
                · rw [zu_n z, if_neg (show ¬ y = j from fun q => z q.symm)]
                  exact RZ j hj
              refine ⟨(Z i).s + 1, h2, h4, ?_, ?_, BxI.jn (X2.fr (T3.tr T4) (fun j a b => NY j (by omega))) M4 mZ RZ2, T12, T3.tr T4⟩
              · rw [H0, k_Bs_lay_49, X.f4 hi, Option.bind_some, if_neg t0, if_neg (by decide)]
                simp only [it, X.f3 hi, X.f2 hi, sU, p1, X1.ra, X1.rb hy, p2, f3, Option.bind_some]
                rw [if_neg ty, if_pos sr, if_neg (by decide), if_pos e, if_neg (by decide)]
              · rw [k_Mo_put_68, WN2 h2 M2, if_pos e, Option.bind_some, if_neg (show ¬ (0 : Int) < 0 by decide)]
                refine (K3 _).trans ?_
                rw [if_pos rfl]
                simp only [M3.a28, a4, M4.a25, rH4, Option.bind_some]
            · refine ⟨-15, h, h, ?_, ?_, B0, Fr.rf, Fr.rf⟩
              · rw [H0, k_Bs_lay_49, X.f4 hi, Option.bind_some, if_neg t0, if_neg (by decide)]
                simp only [it, X.f3 hi, X.f2 hi, sU, Option.bind_some]
                rw [if_neg ty, if_pos sr, if_neg (by decide), if_neg e]
              · exact put_neg (by decide) (by rw [WN2 h M, if_neg e])
          · refine ⟨-14, h, h, ?_, ?_, B0, Fr.rf, Fr.rf⟩
            · rw [H0, k_Bs_lay_49, X.f4 hi, Option.bind_some, if_neg t0, if_neg (by decide)]
              simp only [it, X.f3 hi, X.f2 hi, Option.bind_some]
              rw [if_neg ty, if_neg sr]
            · have wn : cal 58 m_Mo_whyNotPut [(107, 108), (0, (i : Int)), (0, 2), (0, (y : Int))] h = some (-14, h) := by
                rw [WN h M, k_Mo_whyNotPut_30]
                simp only [M.a24, M.a25, rR h M i hi, rR h M y hy, rH h M, Option.bind_some]
                rw [if_pos t1, if_neg (by omega), if_neg (by decide), if_pos ty1, if_neg (by omega), if_pos (by omega)]
              exact put_neg (by decide) wn
    · rw [if_neg n1] at H0
      refine ⟨-4, h, h, H0, ?_, B0, Fr.rf, Fr.rf⟩
      have wn : cal 58 m_Mo_whyNotPut [(107, 108), (0, (i : Int)), (0, 2), (0, (y : Int))] h = some (-4, h) := by
        rw [k_Mo_whyNotPut, if_pos rfl, M.a28, Option.bind_some, rL h M, Option.bind_some, if_neg n1]
      exact put_neg (by decide) wn
  · have H0 : cal 58 m_Bs_lay [(102, 51), (0, (i : Int)), (0, wt), (0, vl)] h = run 58 m_Bs_lay 49 [(102, 51), (0, (i : Int)), (0, wt), (0, vl), (101, ((53 + 3 * i : Nat) : Int)), (0, 0)] [] h := by
      rw [k_Bs_lay]
      simp only [X.ra, X.rb hi, Option.bind_some]
      rw [if_neg w2]
    have WN : ∀ g : AH, cal 58 m_Mo_whyNotPut [(107, 108), (0, (i : Int)), (0, wt), (0, vl)] g = run 58 m_Mo_whyNotPut 30 [(107, 108), (0, (i : Int)), (0, wt), (0, vl), (0, 0)] [] g := by
      intro g
      rw [k_Mo_whyNotPut, if_neg w2]
    by_cases t0 : (Z i).t = 0
    · refine ⟨-11, h, h, ?_, ?_, B0, Fr.rf, Fr.rf⟩
      · rw [H0, k_Bs_lay_49, X.f4 hi, Option.bind_some, if_pos t0]
      · have wn : cal 58 m_Mo_whyNotPut [(107, 108), (0, (i : Int)), (0, wt), (0, vl)] h = some (-11, h) := by
          rw [WN h, k_Mo_whyNotPut_30, M.a24, Option.bind_some, rR h M i hi, Option.bind_some, if_neg (show ¬ (Z i).t = 1 by omega), if_pos (by omega)]
        exact put_neg (by decide) wn
    · have t1 : (Z i).t = 1 := by omega
      have r4 := mi.2.2.2.2.2.1 t1
      by_cases sr : (Z i).s < (Z i).r
      · obtain ⟨h1, p1, X1, T1⟩ := c_push (d := 56) (wt := wt) (vl := vl) X m hi (by omega)
        have f3 : rdf 1 h1 ((53 + 3 * i : Nat) : Int) 3 = some ((Z i).s + 1) := by
          have := X1.f3 hi
          rw [zu_s] at this
          exact this
        have M1 := ML' h1 T1
        obtain ⟨h3, K3, M3, T3⟩ := m_lay68 (wt := wt) (vl := vl) hi M1 m R (by omega)
        have rH3 : rda 20 h3 124 (i : Int) = some ((Z i).s + 1) := by
          have := M3.rH (i := (i : Int)) (by omega) (by omega)
          rw [Int.toNat_natCast, gds (by omega), if_pos rfl] at this
          exact this
        refine ⟨(Z i).s + 1, h1, h3, ?_, ?_, BxI.jn (X1.fr T3 (fun j a b => NY j (by omega))) M3 (m.thing hi t1 sr (by omega)) (ZR.push hi m R (by omega) l2 l3 l4), T1, T3⟩
        · rw [H0, k_Bs_lay_49, X.f4 hi, Option.bind_some, if_neg t0, if_pos rfl]
          simp only [X.f3 hi, X.f2 hi, p1, f3, Option.bind_some]
          rw [if_pos sr, if_true, if_true]
        · have wn : cal 58 m_Mo_whyNotPut [(107, 108), (0, (i : Int)), (0, wt), (0, vl)] h1 = some (0, h1) := by
            rw [WN h1, k_Mo_whyNotPut_30]
            simp only [M1.a24, M1.a25, rR h1 M1 i hi, rH h1 M1, Option.bind_some]
            rw [if_pos t1, if_neg (by omega), if_true, if_neg (by omega), if_true]
          rw [k_Mo_put_68, wn, Option.bind_some, if_neg (show ¬ (0 : Int) < 0 by decide)]
          refine (K3 _).trans ?_
          rw [if_neg w2]
          simp only [M3.a25, rH3, Option.bind_some]
      · refine ⟨-14, h, h, ?_, ?_, B0, Fr.rf, Fr.rf⟩
        · rw [H0, k_Bs_lay_49, X.f4 hi, Option.bind_some, if_neg t0, if_pos rfl]
          simp only [X.f3 hi, X.f2 hi, Option.bind_some]
          rw [if_neg sr]
        · have wn : cal 58 m_Mo_whyNotPut [(107, 108), (0, (i : Int)), (0, wt), (0, vl)] h = some (-14, h) := by
            rw [WN h, k_Mo_whyNotPut_30]
            simp only [M.a24, M.a25, rR h M i hi, rH h M, Option.bind_some]
            rw [if_pos t1, if_neg (by omega), if_true, if_pos (by omega)]
          exact put_neg (by decide) wn
end OPS
