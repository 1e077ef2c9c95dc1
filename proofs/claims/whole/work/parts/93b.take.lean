/-! take. -/
section POP
variable {Z : Nat → Bk} {i : Nat}
theorem pop_eq (b : Bk) : (pop b).r = b.r ∧ (pop b).t = b.t ∧ (pop b).n = b.n ∧ (pop b).w = b.w ∧ (pop b).v = b.v ∧ (pop b).s = b.s - 1 := ⟨rfl, rfl, rfl, rfl, rfl, rfl⟩
/-- what is no box, lifted -/
theorem ZM.pop0 (m : ZM Z) (hi : i < 5) (s0 : 0 < (Z i).s) (t1 : (Z i).t = 1) (nb : (Z i).w.getD ((Z i).s - 1).toNat 0 ≠ 2) : ZM (zu Z i (pop (Z i))) := by
  obtain ⟨m1, m2, m3, m4, rk, m5⟩ := m
  have mi := m1 i hi
  have e : ∀ j, (zu Z i (pop (Z i)) j).n = (Z j).n ∧ (zu Z i (pop (Z i)) j).w = (Z j).w ∧ (zu Z i (pop (Z i)) j).v = (Z j).v ∧ (zu Z i (pop (Z i)) j).s ≤ (Z j).s ∧ (j ≠ i → (zu Z i (pop (Z i)) j).s = (Z j).s) := by
    intro j
    by_cases z : j = i
    · subst z; rw [zu_s]; exact ⟨rfl, rfl, rfl, by show (Z j).s - 1 ≤ (Z j).s; omega, fun y => absurd rfl y⟩
    · rw [zu_n z]; exact ⟨rfl, rfl, rfl, by omega, fun _ => rfl⟩
  refine ⟨fun j hj => ?_, fun j hj k hk => ?_, fun j hj z => ?_, fun j hj k l hk hl => ?_, rk, fun j hj z => ?_⟩
  · by_cases z : j = i
    · subst z
      rw [zu_s]
      refine ⟨mi.1, ?_, ?_, mi.2.2.2.1, mi.2.2.2.2.1, fun y => ?_, fun y => ?_, mi.2.2.2.2.2.2.2⟩
      · show 0 ≤ (Z j).s - 1; omega
      · show (Z j).s - 1 ≤ 4; omega
      · show (Z j).s - 1 ≤ (Z j).r ∧ (Z j).r ≤ 4
        have := mi.2.2.2.2.2.1 y; omega
      · have y : (Z j).t = 0 := y; omega
    · rw [zu_n z]; exact m1 j hj
  · have q := e j
    rw [q.2.1, q.2.2.1, (e _).1]
    exact m2 j hj k (by omega)
  · rw [(e j).1] at z ⊢
    obtain ⟨k, k1, k2, k3⟩ := m3 j hj z
    have q := e (Z j).n.toNat
    rw [q.2.1, q.2.2.1]
    refine ⟨k, ?_, k2, k3⟩
    by_cases y : (Z j).n.toNat = i
    · rw [y] at k1 k2 ⊢
      rw [zu_s]
      show (k : Int) < (Z i).s - 1
      by_cases x : (k : Int) = (Z i).s - 1
      · rw [show k = ((Z i).s - 1).toNat by omega] at k2
        exact absurd k2 nb
      · omega
    · rw [q.2.2.2.2 y]; exact k1
  · have q := e j
    rw [q.2.1, q.2.2.1]
    exact m4 j hj k l (by omega) (by omega)
  · rw [(e j).1] at z ⊢
    exact m5 j hj z
/-- a box lifted -/
theorem ZM.pop2 (m : ZM Z) (hi : i < 5) (s0 : 0 < (Z i).s) (t1 : (Z i).t = 1) {y : Nat} (hy : y < 5) (w2 : (Z i).w.getD ((Z i).s - 1).toNat 0 = 2) (vy : (Z i).v.getD ((Z i).s - 1).toNat 0 = (y : Int)) : y ≠ i ∧ ZM (zu (zu Z i (pop (Z i))) y (lay (zu Z i (pop (Z i)) y) (-1))) := by
  obtain ⟨m1, m2, m3, m4, rk, m5⟩ := m
  have mi := m1 i hi
  have ny : (Z y).n = (i : Int) := by
    rcases m2 i hi ((Z i).s - 1).toNat (by omega) with a | a | a
    · omega
    · omega
    · have := a.2.2.2
      rw [vy, Int.toNat_natCast] at this
      exact this
  have yi : y ≠ i := by
    intro e
    subst e
    have := m5 y hy (by omega)
    rw [ny, Int.toNat_natCast] at this
    omega
  refine ⟨yi, ?_⟩
  have ey : zu Z i (pop (Z i)) y = Z y := zu_n yi
  rw [ey]
  have e : ∀ j, (zu (zu Z i (pop (Z i))) y (lay (Z y) (-1)) j).n = (if j = y then -1 else (Z j).n) ∧ (zu (zu Z i (pop (Z i))) y (lay (Z y) (-1)) j).w = (Z j).w ∧ (zu (zu Z i (pop (Z i))) y (lay (Z y) (-1)) j).v = (Z j).v ∧ (zu (zu Z i (pop (Z i))) y (lay (Z y) (-1)) j).s = (if j = i then (Z i).s - 1 else (Z j).s) ∧ (zu (zu Z i (pop (Z i))) y (lay (Z y) (-1)) j).r = (Z j).r ∧ (zu (zu Z i (pop (Z i))) y (lay (Z y) (-1)) j).t = (Z j).t := by
    intro j
    by_cases z : j = y
    · subst z; rw [zu_s, if_pos rfl, if_neg yi]; exact ⟨rfl, rfl, rfl, rfl, rfl, rfl⟩
    · rw [zu_n z, if_neg z]
      by_cases w : j = i
      · subst w; rw [zu_s, if_pos rfl]; exact ⟨rfl, rfl, rfl, rfl, rfl, rfl⟩
      · rw [zu_n w, if_neg w]; exact ⟨rfl, rfl, rfl, rfl, rfl, rfl⟩
  have sl : ∀ j k : Nat, (k : Int) < (if j = i then (Z i).s - 1 else (Z j).s) → (k : Int) < (Z j).s := fun j k h => by
    by_cases z : j = i
    · rw [if_pos z] at h; rw [z]; omega
    · rw [if_neg z] at h; exact h
  refine ⟨fun j hj => ?_, fun j hj k hk => ?_, fun j hj z => ?_, fun j hj k l hk hl => ?_, rk, fun j hj z => ?_⟩
  · obtain ⟨e1, e2, e3, e4, e5, e6⟩ := e j
    have mj := m1 j hj
    rw [e1, e2, e3, e4, e5, e6]
    by_cases z : j = i
    · subst z
      rw [if_pos rfl, if_neg (fun x => yi x.symm)]
      exact ⟨mi.1, by omega, by omega, mi.2.2.2.1, mi.2.2.2.2.1, fun x => by have := mi.2.2.2.2.2.1 x; omega, fun x => by omega, mi.2.2.2.2.2.2.2⟩
    · rw [if_neg z]
      refine ⟨mj.1, mj.2.1, mj.2.2.1, mj.2.2.2.1, mj.2.2.2.2.1, mj.2.2.2.2.2.1, mj.2.2.2.2.2.2.1, ?_⟩
      by_cases x : j = y
      · rw [if_pos x]; exact Or.inl rfl
      · rw [if_neg x]; exact mj.2.2.2.2.2.2.2
  · obtain ⟨e1, e2, e3, e4, -, -⟩ := e j
    rw [e4] at hk
    rw [e2, e3, (e _).1]
    rcases m2 j hj k (sl j k hk) with a | a | ⟨a1, a2, a3, a4⟩
    · exact Or.inl a
    · exact Or.inr (Or.inl a)
    · refine Or.inr (Or.inr ⟨a1, a2, a3, ?_⟩)
      rw [if_neg ?_]
      · exact a4
      · intro x
        rw [x, ny] at a4
        have ji : j = i := by omega
        subst ji
        rw [if_pos rfl] at hk
        have := m4 j hj k ((Z j).s - 1).toNat (by omega) (by omega) a1 w2 (by rw [vy]; omega)
        omega
  · rw [(e j).1] at z ⊢
    by_cases x : j = y
    · rw [if_pos x] at z; exact absurd rfl z
    · rw [if_neg x] at z ⊢
      obtain ⟨k, k1, k2, k3⟩ := m3 j hj z
      obtain ⟨-, e2, e3, e4, -, -⟩ := e (Z j).n.toNat
      rw [e2, e3, e4]
      refine ⟨k, ?_, k2, k3⟩
      by_cases w : (Z j).n.toNat = i
      · rw [if_pos w]
        rw [w] at k1 k3
        by_cases u : (k : Int) = (Z i).s - 1
        · rw [show k = ((Z i).s - 1).toNat by omega, vy] at k3
          omega
        · omega
      · rw [if_neg w]; exact k1
  · obtain ⟨-, e2, e3, e4, -, -⟩ := e j
    rw [e4] at hk hl
    rw [e2, e3]
    exact m4 j hj k l (sl j k hk) (sl j l hl)
  · rw [(e j).1] at z ⊢
    by_cases x : j = y
    · rw [if_pos x] at z; exact absurd rfl z
    · rw [if_neg x] at z ⊢; exact m5 j hj z
end POP
/-- what lies on top -/
theorem c_onTop {Z : Nat → Bk} {d i : Nat} {h : AH} (X : XH h Z) (m : ZM Z) (hi : i < 5) (s0 : 0 < (Z i).s) (wt : Int) : cal (d + 1) m_Bx_hasOnTop [(101, ((53 + 3 * i : Nat) : Int)), (0, wt)] h = some (if (Z i).w.getD ((Z i).s - 1).toNat 0 = wt then 1 else 0, h) := by
  have mi := m.1 i hi
  have r := X.rw hi (k := (Z i).s - 1) (by omega) (by omega)
  rw [k_Bx_hasOnTop]
  simp only [X.f3 hi, X.p0 hi, Option.bind_some]
  rw [if_pos s0, sub_id (by omega) (by omega), r, Option.bind_some]
  exact ifs
theorem m_whyOut {Z : Nat → Bk} {d i : Nat} {h : AH} {hd ro ho wh tg li : List Int} (M : ML h hd ro ho wh tg li) (m : ZM Z) (R : ZR Z ro ho wh tg li) (hi : i < 5) (wt : Int) : cal (d + 1) m_Mo_whyNotOut [(107, 108), (0, (i : Int)), (0, wt)] h = some (if (Z i).t = 0 then -11 else if (Z i).s = 0 then -12 else if (Z i).w.getD ((Z i).s - 1).toNat 0 = wt then 0 else -13, h) := by
  have mi := m.1 i hi
  have rR := M.rR (i := (i : Int)) (by omega) (by omega)
  have rH := M.rH (i := (i : Int)) (by omega) (by omega)
  rw [Int.toNat_natCast, (R i hi).1] at rR
  rw [Int.toNat_natCast, (R i hi).2.1] at rH
  rw [k_Mo_whyNotOut]
  simp only [M.a24, M.a25, M.a26, rR, rH, Option.bind_some]
  by_cases t0 : (Z i).t = 0
  · rw [if_neg (show ¬ (Z i).t = 1 by omega), if_pos (by omega), if_pos t0]
  · have t1 : (Z i).t = 1 := by omega
    have r4 := mi.2.2.2.2.2.1 t1
    rw [if_pos t1, if_neg (by omega), if_neg t0]
    by_cases s0 : (Z i).s = 0
    · rw [if_pos s0, if_pos s0]
    · have rW := M.rW (i := 4 * (i : Int) + (Z i).s - 1) (by omega) (by omega)
      have e := ((R i hi).2.2.2 ((Z i).s - 1).toNat (by omega)).1
      rw [show (4 * (i : Int) + (Z i).s - 1).toNat = 4 * i + ((Z i).s - 1).toNat by omega, e] at rW
      rw [if_neg s0, if_neg s0, mul_id (by omega) (by omega), add_id (x := 4 * (i : Int)) (by omega) (by omega), sub_id (by omega) (by omega), rW, Option.bind_some]
      exact ifs
section OPS
variable {scr : List Int}
theorem op_take (a b : Int) : Op scr m_Ss_take m_Mo_take [(0, a), (0, b)] := by
  intro h I
  obtain ⟨hl, hs, ho', le, un, ke, ma, B, C, iS, iM, iN, iT, iP, iK, iX, iF, iW, iI, iB⟩ := id I
  obtain ⟨pl, be, to, va, br, la, hm⟩ := id iM
  obtain ⟨Z, ro, ho, wh, tg, li, X, M, m, R⟩ := iB.sp hm
  obtain ⟨l1, l2, l3, l4, l5⟩ := M.c.2.2.2.2.2
  have c1 : cal 58 m_Bs_has [(102, 51), (0, a)] h = some (bI (decide (0 ≤ a ∧ a < 5)), h) := c_bsHas a
  have m1 : ∀ g : AH, cal 58 m_Mo_isBox [(0, a)] g = some (bI (decide (0 ≤ a ∧ a < 5)), g) := fun g => m_isBox a
  have c3 : cal 58 m_Ss_isWithin [(0, b), (0, 0), (0, 2)] h = some (bI (decide (0 ≤ b ∧ b ≤ 2)), h) := c_within b 0 2
  have m3 : ∀ g : AH, cal 58 m_Mo_in [(2, b), (2, 0), (2, 2)] g = some (bI (decide (0 ≤ b ∧ b ≤ 2)), g) := fun g => m_in b 0 2
  by_cases ha : 0 ≤ a ∧ a < 5
  rotate_left
  · rw [bI_f ha] at c1 m1
    refine ⟨-2, h, h, ?_, hs, ?_, I⟩
    · rw [k_Ss_take]; simp only [iS.r9, c1, Option.bind_some]; rfl
    · rw [k_Mo_take]; simp only [m1, Option.bind_some]; rfl
  rw [bI_t ha] at c1 m1
  by_cases hb : 0 ≤ b ∧ b ≤ 2
  rotate_left
  · rw [bI_f hb] at c3 m3
    refine ⟨-3, h, h, ?_, hs, ?_, I⟩
    · rw [k_Ss_take]; simp only [iS.r9, c1, c3, Option.bind_some]; rfl
    · rw [k_Mo_take]; simp only [m1, m3, Option.bind_some]; rfl
  rw [bI_t hb] at c3 m3
  obtain ⟨i, rfl⟩ : ∃ x : Nat, a = (x : Int) := ⟨a.toNat, by omega⟩
  have hi : i < 5 := by omega
  have mi := m.1 i hi
  have CS : ∀ q : Int × AH, cal 58 m_Bs_lift [(102, 51), (0, (i : Int)), (0, b)] h = some q → cal 59 m_Ss_take [(106, 2), (0, (i : Int)), (0, b)] h = some q := by
    intro q hq
    rw [k_Ss_take]; simp only [iS.r9, c1, c3, hq, Option.bind_some]; rw [if_neg (by decide), if_neg (by decide)]
  have NX : ∀ j, ¬ (53 ≤ j ∧ j < 68) → ¬ XB j := fun j z => z
  have NY : ∀ j, ¬ (123 ≤ j ∧ j < 128) → ¬ YB j := fun j z => z
  have MNEG : ∀ v : Int, v < 0 → cal 58 m_Mo_whyNotOut [(107, 108), (0, (i : Int)), (0, b)] h = some (v, h) → cal 59 m_Mo_take [(107, 108), (0, (i : Int)), (0, b)] h = some (v, h) := by
    intro v hv w
    rw [k_Mo_take]; simp only [m1, m3, w, Option.bind_some]; rw [if_neg (by decide), if_neg (by decide), if_pos hv]
  have wo := m_whyOut (d := 57) M m R hi b
  by_cases t0 : (Z i).t = 0
  · rw [if_pos t0] at wo
    refine ⟨-11, h, h, CS _ ?_, hs, MNEG _ (by decide) wo, I⟩
    rw [k_Bs_lift]; simp only [X.ra, X.rb hi, X.f4 hi, Option.bind_some]; rw [if_pos t0]
  have t1 : (Z i).t = 1 := by omega
  rw [if_neg t0] at wo
  by_cases s0 : (Z i).s = 0
  · rw [if_pos s0] at wo
    refine ⟨-12, h, h, CS _ ?_, hs, MNEG _ (by decide) wo, I⟩
    rw [k_Bs_lift]; simp only [X.ra, X.rb hi, X.f4 hi, X.f3 hi, Option.bind_some]; rw [if_neg t0, if_neg (by omega)]
  rw [if_neg s0] at wo
  have sp : 0 < (Z i).s := by omega
  have ot : cal 57 m_Bx_hasOnTop [(101, ((53 + 3 * i : Nat) : Int)), (0, b)] h = some (if (Z i).w.getD ((Z i).s - 1).toNat 0 = b then 1 else 0, h) := c_onTop X m hi sp b
  by_cases tp : (Z i).w.getD ((Z i).s - 1).toNat 0 = b
  rotate_left
  · rw [if_neg tp] at wo ot
    refine ⟨-13, h, h, CS _ ?_, hs, MNEG _ (by decide) wo, I⟩
    rw [k_Bs_lift]; simp only [X.ra, X.rb hi, X.f4 hi, X.f3 hi, ot, Option.bind_some]; rw [if_neg t0, if_pos sp, if_true]
  rw [if_pos tp] at wo ot
  obtain ⟨h1, p1, X1, T1⟩ := X.ws hi ((Z i).s - 1)
  have X1 : XH h1 (zu Z i (pop (Z i))) := X1
  have f3 : rdf 1 h1 ((53 + 3 * i : Nat) : Int) 3 = some ((Z i).s - 1) := by have := X1.f3 hi; rw [zu_s] at this; exact this
  have rv : rda 20 h1 ((55 + 3 * i : Nat) : Int) ((Z i).s - 1) = some ((Z i).v.getD ((Z i).s - 1).toNat 0) := by
    have := X1.rv hi (k := (Z i).s - 1) (by omega) (by rw [zu_s]; show ((Z i).s - 1).toNat < (Z i).v.length; omega)
    rw [zu_s] at this
    exact this
  have en := m.2.1 i hi ((Z i).s - 1).toNat (by omega)
  rw [tp] at en
  have tge := ((R i hi).2.2.2 ((Z i).s - 1).toNat (by omega)).2
  have LIFT : cal 58 m_Bs_lift [(102, 51), (0, (i : Int)), (0, b)] h = (if b = 2 then (cal 57 m_Bs_has [(102, 51), (0, (Z i).v.getD ((Z i).s - 1).toNat 0)] h1).bind (fun q11 => (if q11.1 = 0 then (if b = 0 then some (a_add 50000 ((Z i).v.getD ((Z i).s - 1).toNat 0), q11.2) else some ((Z i).v.getD ((Z i).s - 1).toNat 0, q11.2)) else (rdr 2 q11.2 51 0).bind (fun y12 => (rdar 25 q11.2 y12 ((Z i).v.getD ((Z i).s - 1).toNat 0)).bind (fun y13 => (wrf 1 q11.2 y13 5 (-1)).bind (fun h14 => (if b = 0 then some (a_add 50000 ((Z i).v.getD ((Z i).s - 1).toNat 0), h14) else some ((Z i).v.getD ((Z i).s - 1).toNat 0, h14))))))) else (if b = 0 then some (a_add 50000 ((Z i).v.getD ((Z i).s - 1).toNat 0), h1) else some ((Z i).v.getD ((Z i).s - 1).toNat 0, h1))) := by
    rw [k_Bs_lift]
    simp only [X.ra, X.rb hi, X.f4 hi, X.f3 hi, ot, Option.bind_some]
    rw [if_neg t0, if_pos sp, if_neg (by decide), sub_id (by omega) (by omega), p1, Option.bind_some]
    simp only [X1.p1 hi, f3, rv, Option.bind_some]
  -- the model, on any heap with the same rows
  have MO : ∀ g : AH, Fr XB h g → ∃ h2 : AH, cal 59 m_Mo_take [(107, 108), (0, (i : Int)), (0, b)] g = (if b = 2 then (rdr 7 h2 108 28).bind (fun y11 => (wra 20 h2 y11 ((Z i).v.getD ((Z i).s - 1).toNat 0) (-1)).bind (fun h12 => (if b = 0 then some (a_add ((Z i).v.getD ((Z i).s - 1).toNat 0) 50000, h12) else some ((Z i).v.getD ((Z i).s - 1).toNat 0, h12)))) else (if b = 0 then some (a_add ((Z i).v.getD ((Z i).s - 1).toNat 0) 50000, h2) else some ((Z i).v.getD ((Z i).s - 1).toNat 0, h2))) ∧ ML h2 (hM le pl be to va br un ke la ma) ro (ho.set i ((Z i).s - 1)) wh tg li ∧ Fr YB g h2 := by
    intro g T
    have G : ∀ j, 68 ≤ j → g[j]? = h[j]? := fun j z => T.g j (NX j (by omega))
    have Mg : ML g (hM le pl be to va br un ke la ma) ro ho wh tg li := ⟨by rw [G _ (by omega)]; exact hm, rfl, rfl, rfl, rfl, rfl, by rw [G _ (by omega)]; exact M.c.1, by rw [G _ (by omega)]; exact M.c.2.1, by rw [G _ (by omega)]; exact M.c.2.2.1, by rw [G _ (by omega)]; exact M.c.2.2.2.1, by rw [G _ (by omega)]; exact M.c.2.2.2.2.1, M.c.2.2.2.2.2⟩
    have wog : cal 58 m_Mo_whyNotOut [(107, 108), (0, (i : Int)), (0, b)] g = some (0, g) := by
      have := m_whyOut (d := 57) Mg m R hi b
      rw [if_neg t0, if_neg s0, if_pos tp] at this
      exact this
    have rH := Mg.rH (i := (i : Int)) (by omega) (by omega)
    rw [Int.toNat_natCast, (R i hi).2.1] at rH
    obtain ⟨h2, a2, M2, T2⟩ := Mg.wH (i := (i : Int)) (by omega) (by omega) ((Z i).s - 1)
    rw [Int.toNat_natCast] at M2
    have rH2 := M2.rH (i := (i : Int)) (by omega) (by omega)
    rw [Int.toNat_natCast, gds (by omega), if_pos rfl] at rH2
    have rT := M2.rT (i := 4 * (i : Int) + ((Z i).s - 1)) (by omega) (by omega)
    rw [show (4 * (i : Int) + ((Z i).s - 1)).toNat = 4 * i + ((Z i).s - 1).toNat by omega, tge] at rT
    refine ⟨h2, ?_, M2, T2⟩
    rw [k_Mo_take]
    simp only [m1, m3, wog, Mg.a25, rH, Option.bind_some]
    rw [if_neg (by decide), if_neg (by decide), if_neg (by decide), sub_id (by omega) (by omega), a2]
    simp only [M2.a27, M2.a25, rH2, Option.bind_some]
    rw [mul_id (by omega) (by omega), add_id (x := 4 * (i : Int)) (by omega) (by omega), rT, Option.bind_some]
  have RP : ZR (zu Z i (pop (Z i))) ro (ho.set i ((Z i).s - 1)) wh tg li := by
    intro j hj
    rw [gds (by omega)]
    by_cases z : j = i
    · subst z
      rw [zu_s, if_pos rfl]
      refine ⟨(R j hj).1, rfl, (R j hj).2.2.1, fun k hk => (R j hj).2.2.2 k ?_⟩
      have hk : (k : Int) < (Z j).s - 1 := hk
      omega
    · rw [zu_n z, if_neg (show ¬ i = j from fun q => z q.symm)]
      exact R j hj
  have ENDS : ∀ (v : Int) (g1 g2 : AH), cal 59 m_Ss_take [(106, 2), (0, (i : Int)), (0, b)] h = some (v, g1) → cal 59 m_Mo_take [(107, 108), (0, (i : Int)), (0, b)] g1 = some (v, g2) → BxI g2 → Fr XB h g1 → Fr YB g1 g2 → ∃ (v : Int) (h1 h2 : AH), cal 59 m_Ss_take [(106, 2), (0, (i : Int)), (0, b)] h = some (v, h1) ∧ h1[0]? = some (26, scr) ∧ cal 59 m_Mo_take [(107, 108), (0, (i : Int)), (0, b)] h1 = some (v, h2) ∧ Inv scr h2 := by
    intro v g1 g2 q1 q2 q3 T1 T2
    have T : Fr (fun j => (53 ≤ j ∧ j < 68) ∨ (123 ≤ j ∧ j < 130)) h g2 := (T1.wd (fun j z => by unfold XB at z; omega)).tr (T2.wd (fun j z => by unfold YB at z; omega))
    obtain ⟨-, -, -, -, -, -, -, -, w9, w10⟩ := id iW
    exact ⟨v, g1, g2, q1, by rw [T1.g _ (NX _ (by omega))]; exact hs, q2, inv_bx hl hs ho' iS iM iN iT iP iK iX iF iW iI T ((w9.fr T1 (NX _ (by omega))).fr T2 (NY _ (by omega))) ((w10.fr T1 (NX _ (by omega))).fr T2 (NY _ (by omega))) q3⟩
  by_cases b2 : b = 2
  · have v5 : 0 ≤ (Z i).v.getD ((Z i).s - 1).toNat 0 ∧ (Z i).v.getD ((Z i).s - 1).toNat 0 < 5 := by omega
    obtain ⟨y, ey⟩ : ∃ y : Nat, (Z i).v.getD ((Z i).s - 1).toNat 0 = (y : Int) := ⟨((Z i).v.getD ((Z i).s - 1).toNat 0).toNat, by omega⟩
    have hy : y < 5 := by omega
    obtain ⟨yi, mZ⟩ := m.pop2 hi sp t1 hy (tp.trans b2) ey
    rw [ey] at LIFT MO
    have hh : cal 57 m_Bs_has [(102, 51), (0, (y : Int))] h1 = some (1, h1) := by rw [c_bsHas, bI_t (by omega)]
    obtain ⟨h2, p2, X2, T2⟩ := X1.wn hy (-1)
    have T12 := T1.tr T2
    obtain ⟨h3, k3, M3, T3⟩ := MO h2 T12
    obtain ⟨h4, p4, M4, T4⟩ := M3.wL (i := (y : Int)) (by omega) (by omega) (-1)
    rw [Int.toNat_natCast] at M4
    have R4 : ZR (zu (zu Z i (pop (Z i))) y (lay (zu Z i (pop (Z i)) y) (-1))) ro (ho.set i ((Z i).s - 1)) wh tg (li.set y (-1)) := by
      intro j hj
      rw [gds (l := li) (by omega)]
      by_cases z : j = y
      · subst z
        rw [zu_s, if_pos rfl]
        exact ⟨(RP j hj).1, (RP j hj).2.1, rfl, (RP j hj).2.2.2⟩
      · rw [zu_n z, if_neg (show ¬ y = j from fun q => z q.symm)]
        exact RP j hj
    refine ENDS (y : Int) h2 h4 (CS _ ?_) ?_ (BxI.jn (X2.fr (T3.tr T4) (fun j a b => NY j (by omega))) M4 mZ R4) T12 (T3.tr T4)
    · rw [LIFT, if_pos b2]
      simp only [hh, X1.ra, X1.rb hy, p2, Option.bind_some]
      rw [if_neg (by decide), if_neg (by omega)]
    · rw [k3, if_pos b2, M3.a28, Option.bind_some, p4, Option.bind_some, if_neg (by omega)]
  · have mZ := m.pop0 hi sp t1 (by rw [tp]; exact b2)
    rw [if_neg b2] at LIFT
    obtain ⟨h3, k3, M3, T3⟩ := MO h1 T1
    rw [if_neg b2] at k3
    by_cases b0 : b = 0
    · rw [if_pos b0] at LIFT k3
      rw [add_id (by omega) (by omega)] at LIFT k3
      rw [Int.add_comm] at k3
      exact ENDS _ h1 h3 (CS _ LIFT) k3 (BxI.jn (X1.fr T3 (fun j a b => NY j (by omega))) M3 mZ RP) T1 T3
    · rw [if_neg b0] at LIFT k3
      exact ENDS _ h1 h3 (CS _ LIFT) k3 (BxI.jn (X1.fr T3 (fun j a b => NY j (by omega))) M3 mZ RP) T1 T3
end OPS
