/-! spill: both loops. -/
section SPILLS
variable {Z : Nat → Bk} {i y : Nat}
theorem c_po107 {d : Nat} {v : Int} (m : ZM Z) (hi : i < 5) (hy : y < 5) (T : Top Z i y) (t1 : (Z i).t = 1) (s1 : 0 < (Z i).s) (s4 : (Z i).s - 1 + (Z y).s ≤ (Z i).r) : ∀ (k c : Nat) (h : AH), ((c + k : Nat) : Int) = (Z y).s → XH h (spS Z i y c) → ∃ h' : AH, run (d + 2) m_Bs_pour 107 [(102, 51), (0, (i : Int)), (101, ((53 + 3 * i : Nat) : Int)), (0, v), (101, ((53 + 3 * y : Nat) : Int)), (0, (c : Int))] [] h = some ((Z i).s - 1 + (Z y).s, h') ∧ XH h' (zu (spS Z i y (c + k)) y (emp (spS Z i y (c + k) y))) ∧ Fr XB h h' := by
  have mi := m.1 i hi
  have my := m.1 y hy
  have r4 := (mi.2.2.2.2.2.1 t1).2
  intro k
  induction k with
  | zero =>
    intro c h ck X
    have S := spI_a m hi T s1 (by omega) c (by omega)
    have f3 : rdf 1 h ((53 + 3 * y : Nat) : Int) 3 = some (Z y).s := by rw [X.f3 hy, (S.2.2.2.1 y T.1).2.1]
    obtain ⟨h1, a1, X1, T1⟩ := X.ws hy 0
    have X1 : XH h1 (zu (spS Z i y c) y (emp (spS Z i y c y))) := X1
    have f4 : rdf 1 h1 ((53 + 3 * i : Nat) : Int) 3 = some ((Z i).s - 1 + (Z y).s) := by rw [X1.f3 hi, zu_n (fun e => T.1 e.symm), S.1.2.2.2.1, show (Z y).s = (c : Int) by omega]
    refine ⟨h1, ?_, X1, T1⟩
    rw [k_Bs_pour_107]
    simp only [f3, a1, f4, Option.bind_some]
    rw [if_neg (by omega)]
  | succ k ih =>
    intro c h ck X
    have S := spI_a m hi T s1 (by omega) c (by omega)
    have z1 := S.z1 m hi t1 s1 (by omega)
    have Sy := S.2.2.2.1 y T.1
    have f3 : rdf 1 h ((53 + 3 * y : Nat) : Int) 3 = some (Z y).s := by rw [X.f3 hy, Sy.2.1]
    have rw1 := X.rw hy (k := (c : Int)) (by omega) (by rw [Sy.2.2.2.1]; omega)
    have rv1 := X.rv hy (k := (c : Int)) (by omega) (by rw [Sy.2.2.2.2]; omega)
    rw [Sy.2.2.2.1, Int.toNat_natCast] at rw1
    rw [Sy.2.2.2.2, Int.toNat_natCast] at rv1
    have nx : spS Z i y (c + 1) = pour1 (spS Z i y c) i ((Z y).w.getD c 0) ((Z y).v.getD c 0) := rfl
    have tp := T.2.2 c (by omega)
    generalize hw : (Z y).w.getD c 0 = wt at *
    generalize hv : (Z y).v.getD c 0 = vl at *
    obtain ⟨h1, a1, X1, T1⟩ := c_push1 (d := d) (wt := wt) (vl := vl) X z1 hi (by rw [S.1.2.2.2.1]; omega)
    have y1 : zu (spS Z i y c) i (psh (spS Z i y c i) wt vl) y = spS Z i y c y := zu_n T.1
    have rw2 := X1.rw hy (k := (c : Int)) (by omega) (by rw [y1, Sy.2.2.2.1]; omega)
    have rv2 := X1.rv hy (k := (c : Int)) (by omega) (by rw [y1, Sy.2.2.2.2]; omega)
    rw [y1, Sy.2.2.2.1, Int.toNat_natCast, hw] at rw2
    rw [y1, Sy.2.2.2.2, Int.toNat_natCast, hv] at rv2
    have e1 : a_add (c : Int) 1 = ((c + 1 : Nat) : Int) := by rw [add_id (by omega) (by omega)]; omega
    by_cases w2 : wt = 2
    · obtain ⟨x, x5, xe, xi, xy, xn⟩ := tp w2
      rw [xe] at a1 X1 rv1 rv2 nx
      have hh : cal (d + 1) m_Bs_has [(102, 51), (0, (x : Int))] h1 = some (1, h1) := by rw [c_bsHas, bI_t (by omega)]
      obtain ⟨h2, a2, X2, T2⟩ := X1.wn x5 (i : Int)
      have X2 : XH h2 (spS Z i y (c + 1)) := by
        rw [nx]; unfold pour1; rw [if_pos w2, Int.toNat_natCast]; exact X2
      obtain ⟨h', b1, b2, b3⟩ := ih (c + 1) h2 (by omega) X2
      rw [show c + 1 + k = c + (k + 1) by omega] at b2
      refine ⟨h', ?_, b2, (T1.tr T2).tr b3⟩
      rw [k_Bs_pour_107]
      simp only [f3, X.p0 hy, X.p1 hy, rw1, rv1, a1, X1.p0 hy, X1.p1 hy, rw2, rv2, hh, X1.ra, X1.rb x5, a2, Option.bind_some]
      rw [if_pos (by omega), if_pos w2, if_neg (by decide), e1]
      exact b1
    · have X2 : XH h1 (spS Z i y (c + 1)) := by
        rw [nx]; unfold pour1; rw [if_neg w2]; exact X1
      obtain ⟨h', b1, b2, b3⟩ := ih (c + 1) h1 (by omega) X2
      rw [show c + 1 + k = c + (k + 1) by omega] at b2
      refine ⟨h', ?_, b2, T1.tr b3⟩
      rw [k_Bs_pour_107]
      simp only [f3, X.p0 hy, X.p1 hy, rw1, rv1, a1, X1.p0 hy, X1.p1 hy, rw2, rv2, Option.bind_some]
      rw [if_pos (by omega), if_neg w2, e1]
      exact b1
theorem m_sp88 {d : Nat} {hd : List Int} {v : Int} (m : ZM Z) (hi : i < 5) (hy : y < 5) (T : Top Z i y) (t1 : (Z i).t = 1) (s1 : 0 < (Z i).s) (s4 : (Z i).s - 1 + (Z y).s ≤ (Z i).r) : ∀ (k c : Nat) (h : AH) (ro ho wh tg li : List Int) (u5 u6 : AV), ((c + k : Nat) : Int) = (Z y).s → ML h hd ro ho wh tg li → ZR (spS Z i y c) ro ho wh tg li → ∃ (h' : AH) (ho' wh' tg' li' : List Int), run (d + 1) m_Mo_spill 88 [(107, 108), (0, (i : Int)), (0, v), (0, (y : Int)), (0, (c : Int)), u5, u6] [] h = some ((Z i).s - 1 + (Z y).s, h') ∧ ML h' hd ro ho' wh' tg' li' ∧ ZR (zu (spS Z i y (c + k)) y (emp (spS Z i y (c + k) y))) ro ho' wh' tg' li' ∧ Fr YB h h' := by
  have mi := m.1 i hi
  have my := m.1 y hy
  have r4 := (mi.2.2.2.2.2.1 t1).2
  intro k
  induction k with
  | zero =>
    intro c h ro ho wh tg li u5 u6 ck M R
    obtain ⟨l1, l2, l3, l4, l5⟩ := M.c.2.2.2.2.2
    have S := spI_a m hi T s1 (by omega) c (by omega)
    have Sy := S.2.2.2.1 y T.1
    have rH := M.rH (i := (y : Int)) (by omega) (by omega)
    rw [Int.toNat_natCast, (R y hy).2.1, Sy.2.1] at rH
    obtain ⟨h1, a1, M1, T1⟩ := M.wH (i := (y : Int)) (by omega) (by omega) 0
    rw [Int.toNat_natCast] at M1
    have rI := M1.rH (i := (i : Int)) (by omega) (by omega)
    rw [Int.toNat_natCast, gd_ne T.1, (R i hi).2.1, S.1.2.2.2.1, show (c : Int) = (Z y).s by omega] at rI
    refine ⟨h1, _, _, _, _, ?_, M1, ?_, T1⟩
    · rw [k_Mo_spill_88]
      simp only [M.a25, rH, a1, M1.a25, rI, Option.bind_some]
      rw [if_neg (by omega)]
    · intro j hj
      rw [gds (by omega)]
      by_cases z : j = y
      · subst z
        rw [Nat.add_zero, zu_s, if_pos rfl]
        exact ⟨(R j hj).1, rfl, (R j hj).2.2.1, fun k hk => absurd (show (k : Int) < 0 from hk) (by omega)⟩
      · rw [Nat.add_zero, zu_n z, if_neg (show ¬ y = j from fun q => z q.symm)]
        exact R j hj
  | succ k ih =>
    intro c h ro ho wh tg li u5 u6 ck M R
    obtain ⟨l1, l2, l3, l4, l5⟩ := M.c.2.2.2.2.2
    have S := spI_a m hi T s1 (by omega) c (by omega)
    have z1 := S.z1 m hi t1 s1 (by omega)
    have Sy := S.2.2.2.1 y T.1
    have rH := M.rH (i := (y : Int)) (by omega) (by omega)
    rw [Int.toNat_natCast, (R y hy).2.1, Sy.2.1] at rH
    have rW := M.rW (i := 4 * (y : Int) + (c : Int)) (by omega) (by omega)
    have rT := M.rT (i := 4 * (y : Int) + (c : Int)) (by omega) (by omega)
    have ee := (R y hy).2.2.2 c (by rw [Sy.2.1]; omega)
    rw [Sy.2.2.2.1, Sy.2.2.2.2] at ee
    rw [show (4 * (y : Int) + (c : Int)).toNat = 4 * y + c by omega, ee.1] at rW
    rw [show (4 * (y : Int) + (c : Int)).toNat = 4 * y + c by omega, ee.2] at rT
    have nx : spS Z i y (c + 1) = pour1 (spS Z i y c) i ((Z y).w.getD c 0) ((Z y).v.getD c 0) := rfl
    have tp := T.2.2 c (by omega)
    generalize (Z y).w.getD c 0 = wt at *
    generalize (Z y).v.getD c 0 = vl at *
    have e1 : a_add (c : Int) 1 = ((c + 1 : Nat) : Int) := by rw [add_id (by omega) (by omega)]; omega
    obtain ⟨h3, a3, M3, T3⟩ := m_lay1 (wt := wt) (vl := vl) hi M z1 R (by rw [S.1.2.2.2.1]; omega)
    have R3 := ZR.push1 (wt := wt) (vl := vl) hi z1 R (by rw [S.1.2.2.2.1]; omega) l2 l3 l4
    have HEAD : ∀ r, ((if wt = 2 then (rdr 7 h3 108 28).bind (fun y18 => (wra 20 h3 y18 vl (i : Int)).bind (fun h19 => run (d + 1) m_Mo_spill 88 [(107, 108), (0, (i : Int)), (0, v), (0, (y : Int)), (0, ((c + 1 : Nat) : Int)), (0, wt), (0, vl)] [] h19)) else run (d + 1) m_Mo_spill 88 [(107, 108), (0, (i : Int)), (0, v), (0, (y : Int)), (0, ((c + 1 : Nat) : Int)), (0, wt), (0, vl)] [] h3) = r) → run (d + 1) m_Mo_spill 88 [(107, 108), (0, (i : Int)), (0, v), (0, (y : Int)), (0, (c : Int)), u5, u6] [] h = r := by
      intro r hr
      rw [k_Mo_spill_88, M.a25, Option.bind_some, rH, Option.bind_some, if_pos (by omega), M.a26, Option.bind_some, mul_id (x := 4) (y := (y : Int)) (by omega) (by omega), add_id (x := 4 * (y : Int)) (by omega) (by omega), rW, Option.bind_some, M.a27, Option.bind_some, rT, Option.bind_some, e1]
      have := a3 (fun h17 => (if wt = 2 then (rdr 7 h17 108 28).bind (fun y18 => (wra 20 h17 y18 vl (i : Int)).bind (fun h19 => run (d + 1) m_Mo_spill 88 [(107, 108), (0, (i : Int)), (0, v), (0, (y : Int)), (0, ((c + 1 : Nat) : Int)), (0, wt), (0, vl)] [] h19)) else run (d + 1) m_Mo_spill 88 [(107, 108), (0, (i : Int)), (0, v), (0, (y : Int)), (0, ((c + 1 : Nat) : Int)), (0, wt), (0, vl)] [] h17))
      rw [M.a26, M.a25] at this
      simp only [Option.bind_some] at this ⊢
      exact this.trans hr
    by_cases w2 : wt = 2
    · obtain ⟨x, x5, xe, xi, xy, xn⟩ := tp w2
      rw [xe] at M3 R3 nx HEAD
      obtain ⟨h4, a4, M4, T4⟩ := M3.wL (i := (x : Int)) (by omega) (by omega) (i : Int)
      rw [Int.toNat_natCast] at M4
      have R4 : ZR (spS Z i y (c + 1)) ro (ho.set i ((spS Z i y c i).s + 1)) (wh.set (4 * i + (spS Z i y c i).s.toNat) wt) (tg.set (4 * i + (spS Z i y c i).s.toNat) (x : Int)) (li.set x (i : Int)) := by
        rw [nx]; unfold pour1; rw [if_pos w2, Int.toNat_natCast]
        intro j hj
        rw [gds (l := li) (by omega)]
        by_cases z : j = x
        · subst z
          rw [zu_s, if_pos rfl]
          exact ⟨(R3 j hj).1, (R3 j hj).2.1, rfl, (R3 j hj).2.2.2⟩
        · rw [zu_n z, if_neg (show ¬ x = j from fun q => z q.symm)]
          exact R3 j hj
      obtain ⟨h', ho', wh', tg', li', b1, b2, b3, b4⟩ := ih (c + 1) h4 _ _ _ _ _ (0, wt) (0, (x : Int)) (by omega) M4 R4
      rw [show c + 1 + k = c + (k + 1) by omega] at b3
      refine ⟨h', ho', wh', tg', li', HEAD _ ?_, b2, b3, (T3.tr T4).tr b4⟩
      rw [if_pos w2, M3.a28, Option.bind_some, a4, Option.bind_some]
      exact b1
    · have R4 : ZR (spS Z i y (c + 1)) ro (ho.set i ((spS Z i y c i).s + 1)) (wh.set (4 * i + (spS Z i y c i).s.toNat) wt) (tg.set (4 * i + (spS Z i y c i).s.toNat) vl) li := by
        rw [nx]; unfold pour1; rw [if_neg w2]; exact R3
      obtain ⟨h', ho', wh', tg', li', b1, b2, b3, b4⟩ := ih (c + 1) h3 _ _ _ _ _ (0, wt) (0, vl) (by omega) M3 R4
      rw [show c + 1 + k = c + (k + 1) by omega] at b3
      refine ⟨h', ho', wh', tg', li', HEAD _ ?_, b2, b3, T3.tr b4⟩
      rw [if_neg w2]
      exact b1
end SPILLS
section OPS
variable {scr : List Int}
theorem op_spill (a : Int) : Op scr m_Ss_spill m_Mo_spill [(0, a)] := by
  intro h I
  obtain ⟨hl, hs, ho', le, un, ke, ma, B, C, iS, iM, iN, iT, iP, iK, iX, iF, iW, iI, iB⟩ := id I
  obtain ⟨pl, be, to, va, br, la, hm⟩ := id iM
  obtain ⟨Z, ro, ho, wh, tg, li, X, M, m, R⟩ := iB.sp hm
  obtain ⟨l1, l2, l3, l4, l5⟩ := M.c.2.2.2.2.2
  have c1 : cal 58 m_Bs_has [(102, 51), (0, a)] h = some (bI (decide (0 ≤ a ∧ a < 5)), h) := c_bsHas a
  have m1 : ∀ g : AH, cal 58 m_Mo_isBox [(0, a)] g = some (bI (decide (0 ≤ a ∧ a < 5)), g) := fun g => m_isBox a
  by_cases ha : 0 ≤ a ∧ a < 5
  rotate_left
  · rw [bI_f ha] at c1 m1
    refine ⟨-2, h, h, ?_, hs, ?_, I⟩
    · rw [k_Ss_spill]; simp only [iS.r9, c1, Option.bind_some]; rfl
    · rw [k_Mo_spill]; simp only [m1, Option.bind_some]; rfl
  rw [bI_t ha] at c1 m1
  obtain ⟨i, rfl⟩ : ∃ x : Nat, a = (x : Int) := ⟨a.toNat, by omega⟩
  have hi : i < 5 := by omega
  have mi := m.1 i hi
  have CS : ∀ q : Int × AH, cal 58 m_Bs_pour [(102, 51), (0, (i : Int))] h = some q → cal 59 m_Ss_spill [(106, 2), (0, (i : Int))] h = some q := by
    intro q hq
    rw [k_Ss_spill]; simp only [iS.r9, c1, hq, Option.bind_some]; rw [if_neg (by decide)]
  have NX : ∀ j, ¬ (53 ≤ j ∧ j < 68) → ¬ XB j := fun j z => z
  have NY : ∀ j, ¬ (123 ≤ j ∧ j < 128) → ¬ YB j := fun j z => z
  have MNEG : ∀ v : Int, v < 0 → cal 58 m_Mo_whyNotOut [(107, 108), (0, (i : Int)), (0, 2)] h = some (v, h) → cal 59 m_Mo_spill [(107, 108), (0, (i : Int))] h = some (v, h) := by
    intro v hv w
    rw [k_Mo_spill]; simp only [m1, w, Option.bind_some]; rw [if_neg (by decide), if_pos hv]
  have wo := m_whyOut (d := 57) M m R hi 2
  by_cases t0 : (Z i).t = 0
  · rw [if_pos t0] at wo
    refine ⟨-11, h, h, CS _ ?_, hs, MNEG _ (by decide) wo, I⟩
    rw [k_Bs_pour]; simp only [X.ra, X.rb hi, X.f4 hi, Option.bind_some]; rw [if_pos t0]
  have t1 : (Z i).t = 1 := by omega
  have r4 := mi.2.2.2.2.2.1 t1
  rw [if_neg t0] at wo
  by_cases s0 : (Z i).s = 0
  · rw [if_pos s0] at wo
    refine ⟨-12, h, h, CS _ ?_, hs, MNEG _ (by decide) wo, I⟩
    rw [k_Bs_pour]; simp only [X.ra, X.rb hi, X.f4 hi, X.f3 hi, Option.bind_some]; rw [if_neg t0, if_neg (by omega)]
  rw [if_neg s0] at wo
  have sp : 0 < (Z i).s := by omega
  have ot : cal 57 m_Bx_hasOnTop [(101, ((53 + 3 * i : Nat) : Int)), (0, 2)] h = some (if (Z i).w.getD ((Z i).s - 1).toNat 0 = 2 then 1 else 0, h) := c_onTop X m hi sp 2
  have rv := X.rv hi (k := (Z i).s - 1) (by omega) (by omega)
  by_cases tp : (Z i).w.getD ((Z i).s - 1).toNat 0 = 2
  rotate_left
  · rw [if_neg tp] at wo ot
    refine ⟨-13, h, h, CS _ ?_, hs, MNEG _ (by decide) wo, I⟩
    rw [k_Bs_pour]; simp only [X.ra, X.rb hi, X.f4 hi, X.f3 hi, X.p1 hi, ot, Option.bind_some]; rw [if_neg t0, if_pos sp, sub_id (by omega) (by omega), rv, Option.bind_some, if_true]
  rw [if_pos tp] at wo ot
  have en := m.2.1 i hi ((Z i).s - 1).toNat (by omega)
  have tge := ((R i hi).2.2.2 ((Z i).s - 1).toNat (by omega)).2
  obtain ⟨y, vy⟩ : ∃ y : Nat, (Z i).v.getD ((Z i).s - 1).toNat 0 = (y : Int) := ⟨((Z i).v.getD ((Z i).s - 1).toNat 0).toNat, by omega⟩
  have hy : y < 5 := by omega
  have T := m.top hi hy sp tp vy
  have my := m.1 y hy
  have hh : cal 57 m_Bs_has [(102, 51), (0, (y : Int))] h = some (1, h) := by rw [c_bsHas, bI_t (by omega)]
  rw [vy] at rv tge
  have CPO : ∀ r, ((if (Z i).r < a_add ((Z i).s - 1) (Z y).s then some (-14, h) else (wrf 1 h ((53 + 3 * i : Nat) : Int) 3 ((Z i).s - 1)).bind (fun h16 => (wrf 1 h16 ((53 + 3 * y : Nat) : Int) 5 (-1)).bind (fun h17 => run 58 m_Bs_pour 107 [(102, 51), (0, (i : Int)), (101, ((53 + 3 * i : Nat) : Int)), (0, (y : Int)), (101, ((53 + 3 * y : Nat) : Int)), (0, 0)] [] h17))) = r) → cal 58 m_Bs_pour [(102, 51), (0, (i : Int))] h = r := by
    intro r hr
    rw [k_Bs_pour]; simp only [X.ra, X.rb hi, X.f4 hi, X.f3 hi, X.p1 hi, ot, Option.bind_some]; rw [if_neg t0, if_pos sp, sub_id (by omega) (by omega), rv]
    simp only [hh, X.ra, X.rb hy, X.f2 hi, X.f3 hy, X.f3 hi, Option.bind_some]
    rw [if_neg (by decide), if_neg (by decide), sub_id (x := (Z i).s) (by omega) (by omega)]
    exact hr
  have MSP : ∀ (g : AH) (r : AR), ML g (hM le pl be to va br un ke la ma) ro ho wh tg li → ((if (Z i).r < a_add ((Z i).s - 1) (Z y).s then some (-14, g) else (wra 20 g 124 (i : Int) ((Z i).s - 1)).bind (fun h15 => (rdr 7 h15 108 28).bind (fun y16 => (wra 20 h15 y16 (y : Int) (-1)).bind (fun h17 => run 59 m_Mo_spill 88 [(107, 108), (0, (i : Int)), (0, 0), (0, (y : Int)), (0, 0), (9, 0), (9, 0)] [] h17)))) = r) → cal 59 m_Mo_spill [(107, 108), (0, (i : Int))] g = r := by
    intro g r Mg hr
    have wog : cal 58 m_Mo_whyNotOut [(107, 108), (0, (i : Int)), (0, 2)] g = some (0, g) := by
      have := m_whyOut (d := 57) Mg m R hi 2
      rw [if_neg t0, if_neg s0, if_pos tp] at this
      exact this
    have rH := Mg.rH (i := (i : Int)) (by omega) (by omega)
    rw [Int.toNat_natCast, (R i hi).2.1] at rH
    have rHy := Mg.rH (i := (y : Int)) (by omega) (by omega)
    rw [Int.toNat_natCast, (R y hy).2.1] at rHy
    have rR := Mg.rR (i := (i : Int)) (by omega) (by omega)
    rw [Int.toNat_natCast, (R i hi).1, if_pos t1] at rR
    have rT := Mg.rT (i := 4 * (i : Int) + (Z i).s - 1) (by omega) (by omega)
    rw [show (4 * (i : Int) + (Z i).s - 1).toNat = 4 * i + ((Z i).s - 1).toNat by omega, tge] at rT
    rw [k_Mo_spill]
    simp only [m1, wog, Mg.a27, Mg.a25, rH, Option.bind_some]
    rw [if_neg (by decide), if_neg (by decide), mul_id (by omega) (by omega), add_id (x := 4 * (i : Int)) (by omega) (by omega), sub_id (x := 4 * (i : Int) + (Z i).s) (by omega) (by omega), rT]
    simp only [Mg.a24, Mg.a25, rH, rHy, rR, Option.bind_some]
    rw [sub_id (by omega) (by omega)]
    exact hr
  rw [add_id (by omega) (by omega)] at CPO
  simp only [add_id (x := (Z i).s - 1) (y := (Z y).s) (by omega) (by omega)] at MSP
  by_cases fu : (Z i).r < (Z i).s - 1 + (Z y).s
  · rw [if_pos fu] at CPO
    refine ⟨-14, h, h, CS _ (CPO _ rfl), hs, MSP h _ M ?_, I⟩
    rw [if_pos fu]
  rw [if_neg fu] at CPO
  obtain ⟨g1, p1, X1, T1⟩ := X.ws hi ((Z i).s - 1)
  obtain ⟨g2, p2, X2, T2⟩ := X1.wn hy (-1)
  have X2 : XH g2 (spS Z i y 0) := X2
  obtain ⟨g3, p3, X3, T3⟩ := c_po107 (d := 56) (v := (y : Int)) m hi hy T t1 sp (by omega) (Z y).s.toNat 0 g2 (by omega) X2
  have T13 := (T1.tr T2).tr T3
  have G : ∀ j, 68 ≤ j → g3[j]? = h[j]? := fun j z => T13.g j (NX j (by omega))
  have Mg : ML g3 (hM le pl be to va br un ke la ma) ro ho wh tg li := ⟨by rw [G _ (by omega)]; exact hm, rfl, rfl, rfl, rfl, rfl, by rw [G _ (by omega)]; exact M.c.1, by rw [G _ (by omega)]; exact M.c.2.1, by rw [G _ (by omega)]; exact M.c.2.2.1, by rw [G _ (by omega)]; exact M.c.2.2.2.1, by rw [G _ (by omega)]; exact M.c.2.2.2.2.1, M.c.2.2.2.2.2⟩
  obtain ⟨k1, q1, M1, U1⟩ := Mg.wH (i := (i : Int)) (by omega) (by omega) ((Z i).s - 1)
  obtain ⟨k2, q2, M2, U2⟩ := M1.wL (i := (y : Int)) (by omega) (by omega) (-1)
  rw [Int.toNat_natCast] at M1 M2
  rw [Int.toNat_natCast] at M2
  have R2 : ZR (spS Z i y 0) ro (ho.set i ((Z i).s - 1)) wh tg (li.set y (-1)) := by
    show ZR (zu (zu Z i (pop (Z i))) y (lay (zu Z i (pop (Z i)) y) (-1))) _ _ _ _ _
    intro j hj
    rw [gds (l := li) (by omega), gds (l := ho) (by omega)]
    by_cases z : j = y
    · subst z
      rw [zu_s, if_pos rfl, zu_n T.1, if_neg (show ¬ i = j from fun q => T.1 q.symm)]
      exact ⟨(R j hj).1, (R j hj).2.1, rfl, (R j hj).2.2.2⟩
    · rw [zu_n z, if_neg (show ¬ y = j from fun q => z q.symm)]
      by_cases w : j = i
      · subst w
        rw [zu_s, if_pos rfl]
        refine ⟨(R j hj).1, rfl, (R j hj).2.2.1, fun k hk => (R j hj).2.2.2 k ?_⟩
        have hk : (k : Int) < (Z j).s - 1 := hk
        omega
      · rw [zu_n w, if_neg (show ¬ i = j from fun q => w q.symm)]
        exact R j hj
  obtain ⟨k3, ho3, wh3, tg3, li3, q3, M3, R3, U3⟩ := m_sp88 (d := 58) (v := 0) m hi hy T t1 sp (by omega) (Z y).s.toNat 0 k2 _ _ _ _ _ (9, 0) (9, 0) (by omega) M2 R2
  have U := (U1.tr U2).tr U3
  have S := spI_a m hi T sp (by omega) (0 + (Z y).s.toNat) (by omega)
  have mZ := S.zm m hi hy T (by omega) t1 tp vy sp (by omega)
  have bx : BxI k3 := BxI.jn (X3.fr U (fun j a b => NY j (by omega))) M3 mZ R3
  have T : Fr (fun j => (53 ≤ j ∧ j < 68) ∨ (123 ≤ j ∧ j < 130)) h k3 := (T13.wd (fun j z => by unfold XB at z; omega)).tr (U.wd (fun j z => by unfold YB at z; omega))
  obtain ⟨-, -, -, -, -, -, -, -, w9, w10⟩ := id iW
  refine ⟨(Z i).s - 1 + (Z y).s, g3, k3, CS _ (CPO _ ?_), by rw [T13.g _ (NX _ (by omega))]; exact hs, MSP g3 _ Mg ?_, inv_bx hl hs ho' iS iM iN iT iP iK iX iF iW iI T ((w9.fr T13 (NX _ (by omega))).fr U (NY _ (by omega))) ((w10.fr T13 (NX _ (by omega))).fr U (NY _ (by omega))) bx⟩
  · rw [p1, Option.bind_some, p2, Option.bind_some]
    exact p3
  · rw [if_neg fu, q1, Option.bind_some, M1.a28, Option.bind_some, q2, Option.bind_some]
    exact q3
end OPS
