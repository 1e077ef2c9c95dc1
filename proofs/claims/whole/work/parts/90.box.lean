/-! box and lose. -/
theorem c_bsHas {d : Nat} {h : AH} (x : Int) : cal (d + 1) m_Bs_has [(102, 51), (0, x)] h = some (bI (decide (0 ≤ x ∧ x < 5)), h) := by
  rw [k_Bs_has]
  by_cases a : x < 0
  · rw [if_pos a, bI_f (by omega)]
  · rw [if_neg a]
    by_cases b : x < 5
    · rw [if_pos b, bI_t (by omega)]
    · rw [if_neg b, bI_f (by omega)]
theorem m_isBox {d : Nat} {h : AH} (x : Int) : cal (d + 2) m_Mo_isBox [(0, x)] h = some (bI (decide (0 ≤ x ∧ x < 5)), h) := by
  have e : (0 ≤ x ∧ x ≤ 4) = (0 ≤ x ∧ x < 5) := by apply propext; omega
  rw [k_Mo_isBox, m_in, Option.bind_some]
  simp only [e]
  rw [if_pos (bI01 _)]
theorem c_isThere {d i : Nat} {h : AH} {Z : Nat → Bk} (X : XH h Z) (m : ZM Z) (hi : i < 5) : cal (d + 1) m_Bs_isThere [(102, 51), (0, (i : Int))] h = some ((Z i).t, h) := by
  rw [k_Bs_isThere]
  simp only [X.ra, X.rb hi, X.f4 hi, Option.bind_some]
  rw [if_pos (m.1 i hi).1]
theorem ZM.rt {Y : Nat → Bk} {x : Nat} {r t : Int} (m : ZM Y) (s0 : (Y x).s = 0) (t01 : t = 0 ∨ t = 1) (r0 : t = 1 → 0 ≤ r ∧ r ≤ 4) : ZM (zu Y x (mkK r (Y x).s t (Y x).n (Y x).w (Y x).v)) := by
  obtain ⟨m1, m2, m3, m4, rk, m5⟩ := m
  have e : ∀ j, (zu Y x (mkK r (Y x).s t (Y x).n (Y x).w (Y x).v) j).s = (Y j).s ∧ (zu Y x (mkK r (Y x).s t (Y x).n (Y x).w (Y x).v) j).n = (Y j).n ∧ (zu Y x (mkK r (Y x).s t (Y x).n (Y x).w (Y x).v) j).w = (Y j).w ∧ (zu Y x (mkK r (Y x).s t (Y x).n (Y x).w (Y x).v) j).v = (Y j).v := by
    intro j
    by_cases z : j = x
    · subst z; rw [zu_s]; exact ⟨rfl, rfl, rfl, rfl⟩
    · rw [zu_n z]; exact ⟨rfl, rfl, rfl, rfl⟩
  refine ⟨fun i hi => ?_, fun i hi k hk => ?_, fun j hj z => ?_, fun i hi k l hk hl => ?_, rk, fun j hj z => ?_⟩
  · by_cases z : i = x
    · subst z
      rw [zu_s]
      have mi := m1 i hi
      exact ⟨t01, mi.2.1, mi.2.2.1, mi.2.2.2.1, mi.2.2.2.2.1, fun y => by have := r0 y; show (Y i).s ≤ r ∧ r ≤ 4; omega, fun _ => s0, mi.2.2.2.2.2.2.2⟩
    · rw [zu_n z]; exact m1 i hi
  · rw [(e i).1] at hk
    rw [(e i).2.2.1, (e i).2.2.2, (e _).2.1]
    exact m2 i hi k hk
  · rw [(e j).2.1] at z ⊢
    rw [(e _).1, (e _).2.2.1, (e _).2.2.2]
    exact m3 j hj z
  · rw [(e i).1] at hk hl
    rw [(e i).2.2.1, (e i).2.2.2]
    exact m4 i hi k l hk hl
  · rw [(e j).2.1] at z ⊢
    exact m5 j hj z
section OPS
variable {scr : List Int}
theorem op_box (a n : Int) : Op scr m_Ss_box m_Mo_box [(0, a), (0, n)] := by
  intro h I
  obtain ⟨hl, hs, ho', le, un, ke, ma, B, C, iS, iM, iN, iT, iP, iK, iX, iF, iW, iI, iB⟩ := id I
  obtain ⟨pl, be, to, va, br, la, hm⟩ := id iM
  obtain ⟨Z, ro, ho, wh, tg, li, X, M, m, R⟩ := iB.sp hm
  have c1 : cal 58 m_Bs_has [(102, 51), (0, a)] h = some (bI (decide (0 ≤ a ∧ a < 5)), h) := c_bsHas a
  have m1 : ∀ g : AH, cal 58 m_Mo_isBox [(0, a)] g = some (bI (decide (0 ≤ a ∧ a < 5)), g) := fun g => m_isBox a
  by_cases ha : 0 ≤ a ∧ a < 5
  rotate_left
  · rw [bI_f ha] at c1 m1
    refine ⟨-2, h, h, ?_, hs, ?_, I⟩
    · rw [k_Ss_box]; simp only [iS.r9, c1, Option.bind_some]; rfl
    · rw [k_Mo_box]; simp only [m1, Option.bind_some]; rfl
  rw [bI_t ha] at c1 m1
  by_cases n4 : 4 < n
  · refine ⟨-3, h, h, ?_, hs, ?_, I⟩
    · rw [k_Ss_box]; simp only [iS.r9, c1, Option.bind_some]; rw [if_neg (by decide), if_pos n4]
    · rw [k_Mo_box]; simp only [m1, Option.bind_some]; rw [if_neg (by decide), if_pos n4]
  by_cases n0 : n < 0
  · refine ⟨-16, h, h, ?_, hs, ?_, I⟩
    · rw [k_Ss_box]; simp only [iS.r9, c1, Option.bind_some]; rw [if_neg (by decide), if_neg n4, if_pos n0]
    · rw [k_Mo_box]; simp only [m1, Option.bind_some]; rw [if_neg (by decide), if_neg n4, if_pos n0]
  obtain ⟨x, rfl⟩ : ∃ x : Nat, a = (x : Int) := ⟨a.toNat, by omega⟩
  have hx : x < 5 := by omega
  obtain ⟨h1, Y, p1, X1, Rm, T1⟩ := c_remove (d := 55) hx X m
  have mY := m.rem hx Rm
  obtain ⟨h2, p2, X2, T2⟩ := X1.wt hx (v := 1) (Or.inr rfl)
  obtain ⟨h3, p3, X3, T3⟩ := X2.wr hx n
  have X4 : XH h3 (zu Y x (mkK n (Y x).s 1 (Y x).n (Y x).w (Y x).v)) := X3.eq (fun j hj => by
    by_cases z : j = x
    · subst z; rw [zu_s, zu_s, zu_s]; rfl
    · rw [zu_n z, zu_n z, zu_n z])
  have m4 := mY.rt (x := x) (r := n) (t := 1) Rm.1 (Or.inr rfl) (fun _ => by omega)
  have T13 : Fr XB h h3 := (T1.tr T2).tr T3
  have NX : ∀ j, ¬ (53 ≤ j ∧ j < 68) → ¬ XB j := fun j z => z
  have G : ∀ j, 68 ≤ j → h3[j]? = h[j]? := fun j z => T13.g j (NX j (by omega))
  have M3 : ML h3 (hM le pl be to va br un ke la ma) ro ho wh tg li := ⟨by rw [G _ (by omega)]; exact hm, rfl, rfl, rfl, rfl, rfl, by rw [G _ (by omega)]; exact M.c.1, by rw [G _ (by omega)]; exact M.c.2.1, by rw [G _ (by omega)]; exact M.c.2.2.1, by rw [G _ (by omega)]; exact M.c.2.2.2.1, by rw [G _ (by omega)]; exact M.c.2.2.2.2.1, M.c.2.2.2.2.2⟩
  obtain ⟨h4, ro', ho2, wh', tg', li', q1, M4, T4, ZZ⟩ := m_loses (d := 57) hx M3 m R
  have R4 := ZZ Y Rm
  obtain ⟨h5, q2, M5, T5⟩ := M4.wR (i := (x : Int)) (by omega) (by omega) n
  rw [Int.toNat_natCast] at M5
  have R5 : ZR (zu Y x (mkK n (Y x).s 1 (Y x).n (Y x).w (Y x).v)) (ro'.set x n) ho2 wh' tg' li' := by
    intro i hi
    have l1 := M4.c.2.2.2.2.2.1
    rw [gds (by omega)]
    by_cases z : i = x
    · subst z
      rw [zu_s, if_pos rfl]
      exact ⟨rfl, (R4 i hi).2⟩
    · rw [zu_n z, if_neg (show ¬ x = i from fun y => z y.symm)]
      exact R4 i hi
  have T45 : Fr YB h3 h5 := T4.tr T5
  have NY : ∀ j, ¬ (123 ≤ j ∧ j < 128) → ¬ YB j := fun j z => z
  have T : Fr (fun j => (53 ≤ j ∧ j < 68) ∨ (123 ≤ j ∧ j < 130)) h h5 := (T13.wd (fun j z => by unfold XB at z; omega)).tr (T45.wd (fun j z => by unfold YB at z; omega))
  refine ⟨n, h3, h5, ?_, by rw [T13.g _ (NX _ (by omega))]; exact hs, ?_, ?_⟩
  · have mk : cal 58 m_Bs_make [(102, 51), (0, (x : Int)), (0, n)] h = some (0, h3) := by
      rw [k_Bs_make]
      simp only [p1, X1.ra, X1.rb hx, p2, X2.ra, X2.rb hx, p3, Option.bind_some]
    rw [k_Ss_box]
    simp only [iS.r9, c1, mk, Option.bind_some]
    rw [if_neg (by decide), if_neg n4, if_neg n0]
  · rw [k_Mo_box]
    simp only [m1, q1, M4.a24, q2, Option.bind_some]
    rw [if_neg (by decide), if_neg n4, if_neg n0]
  · obtain ⟨-, -, -, -, -, -, -, -, w9, w10⟩ := id iW
    exact inv_bx hl hs ho' iS iM iN iT iP iK iX iF iW iI T ((w9.fr T13 (NX _ (by omega))).fr T45 (NY _ (by omega))) ((w10.fr T13 (NX _ (by omega))).fr T45 (NY _ (by omega))) (BxI.jn (X4.fr T45 (fun j a b => NY j (by omega))) M5 m4 R5)
theorem op_lose (a : Int) : Op scr m_Ss_lose m_Mo_lose [(0, a)] := by
  intro h I
  obtain ⟨hl, hs, ho', le, un, ke, ma, B, C, iS, iM, iN, iT, iP, iK, iX, iF, iW, iI, iB⟩ := id I
  obtain ⟨pl, be, to, va, br, la, hm⟩ := id iM
  obtain ⟨Z, ro, ho, wh, tg, li, X, M, m, R⟩ := iB.sp hm
  have c1 : cal 58 m_Bs_has [(102, 51), (0, a)] h = some (bI (decide (0 ≤ a ∧ a < 5)), h) := c_bsHas a
  have m1 : ∀ g : AH, cal 58 m_Mo_isBox [(0, a)] g = some (bI (decide (0 ≤ a ∧ a < 5)), g) := fun g => m_isBox a
  by_cases ha : 0 ≤ a ∧ a < 5
  rotate_left
  · rw [bI_f ha] at c1 m1
    refine ⟨-2, h, h, ?_, hs, ?_, I⟩
    · rw [k_Ss_lose]; simp only [iS.r9, c1, Option.bind_some]; rfl
    · rw [k_Mo_lose]; simp only [m1, Option.bind_some]; rfl
  rw [bI_t ha] at c1 m1
  obtain ⟨x, rfl⟩ : ∃ x : Nat, a = (x : Int) := ⟨a.toNat, by omega⟩
  have hx : x < 5 := by omega
  have ct : cal 58 m_Bs_isThere [(102, 51), (0, (x : Int))] h = some ((Z x).t, h) := c_isThere X m hx
  have mx := m.1 x hx
  have rR : ∀ g : AH, ML g (hM le pl be to va br un ke la ma) ro ho wh tg li → rda 20 g 123 (x : Int) = some (if (Z x).t = 1 then (Z x).r else -1) := by
    intro g M
    have := M.rR (i := (x : Int)) (by omega) (by omega)
    rw [Int.toNat_natCast, (R x hx).1] at this
    exact this
  by_cases t0 : (Z x).t = 0
  · refine ⟨-11, h, h, ?_, hs, ?_, I⟩
    · rw [k_Ss_lose]; simp only [iS.r9, c1, ct, Option.bind_some]; rw [if_neg (by decide), if_pos t0]
    · rw [k_Mo_lose]; simp only [m1, M.a24, rR h M, Option.bind_some]; rw [if_neg (by decide), if_neg (show ¬ (Z x).t = 1 by omega), if_pos (by omega)]
  have t1 : (Z x).t = 1 := by omega
  obtain ⟨h1, Y, p1, X1, Rm, T1⟩ := c_remove (d := 56) hx X m
  have mY := m.rem hx Rm
  have NX : ∀ j, ¬ (53 ≤ j ∧ j < 68) → ¬ XB j := fun j z => z
  have G : ∀ j, 68 ≤ j → h1[j]? = h[j]? := fun j z => T1.g j (NX j (by omega))
  have M3 : ML h1 (hM le pl be to va br un ke la ma) ro ho wh tg li := ⟨by rw [G _ (by omega)]; exact hm, rfl, rfl, rfl, rfl, rfl, by rw [G _ (by omega)]; exact M.c.1, by rw [G _ (by omega)]; exact M.c.2.1, by rw [G _ (by omega)]; exact M.c.2.2.1, by rw [G _ (by omega)]; exact M.c.2.2.2.1, by rw [G _ (by omega)]; exact M.c.2.2.2.2.1, M.c.2.2.2.2.2⟩
  obtain ⟨h4, ro', ho2, wh', tg', li', q1, M4, T4, ZZ⟩ := m_loses (d := 57) hx M3 m R
  have NY : ∀ j, ¬ (123 ≤ j ∧ j < 128) → ¬ YB j := fun j z => z
  have T : Fr (fun j => (53 ≤ j ∧ j < 68) ∨ (123 ≤ j ∧ j < 130)) h h4 := (T1.wd (fun j z => by unfold XB at z; omega)).tr (T4.wd (fun j z => by unfold YB at z; omega))
  have rH := M3.rH (i := (x : Int)) (by omega) (by omega)
  rw [Int.toNat_natCast, (R x hx).2.1] at rH
  refine ⟨(Z x).s, h1, h4, ?_, by rw [T1.g _ (NX _ (by omega))]; exact hs, ?_, ?_⟩
  · have p1 : cal 58 m_Bs_remove [(102, 51), (0, (x : Int))] h = some ((Z x).s, h1) := p1
    rw [k_Ss_lose]; simp only [iS.r9, c1, ct, p1, Option.bind_some]; rw [if_neg (by decide), if_neg t0]
  · rw [k_Mo_lose]; simp only [m1, M3.a24, rR h1 M3, M3.a25, rH, q1, Option.bind_some]; rw [if_neg (by decide), if_pos t1, if_neg (by omega)]
  · obtain ⟨-, -, -, -, -, -, -, -, w9, w10⟩ := id iW
    exact inv_bx hl hs ho' iS iM iN iT iP iK iX iF iW iI T ((w9.fr T1 (NX _ (by omega))).fr T4 (NY _ (by omega))) ((w10.fr T1 (NX _ (by omega))).fr T4 (NY _ (by omega))) (BxI.jn (X1.fr T4 (fun j a b => NY j (by omega))) M4 mY (ZZ Y Rm))
end OPS
