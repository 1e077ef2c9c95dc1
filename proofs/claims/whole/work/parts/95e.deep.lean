/-! deep: both. -/
section EQS
variable {Z : Nat → Bk} {y : Int}
theorem acS_sp {e : Nat → Int} : ∀ (a b c : Nat) (x : Int), acS e (a + b) c x = acS e b (c + a) (acS e a c x) := by
  intro a
  induction a with
  | zero => intro b c x; rw [Nat.zero_add]; rfl
  | succ a ih => intro b c x; rw [show a + 1 + b = (a + b) + 1 by omega, show c + (a + 1) = c + 1 + a by omega]; exact ih b (c + 1) _
theorem acS_b2 {e : Nat → Int} {lo hi : Int} : ∀ (k c : Nat) (x : Int), (∀ j, c ≤ j → j < c + k → lo ≤ e j ∧ e j ≤ hi) → x + lo * (k : Int) ≤ acS e k c x ∧ acS e k c x ≤ x + hi * (k : Int) := by
  intro k
  induction k with
  | zero => intro c x _; show _ ≤ x ∧ x ≤ _; simp
  | succ k ih =>
    intro c x B
    have b := B c (by omega) (by omega)
    have i := ih (c + 1) (x + e c) (fun j j0 j1 => B j (by omega) (by omega))
    have e1 : lo * ((k + 1 : Nat) : Int) = lo * (k : Int) + lo := by rw [Int.natCast_add, Int.mul_add]; simp
    have e2 : hi * ((k + 1 : Nat) : Int) = hi * (k : Int) + hi := by rw [Int.natCast_add, Int.mul_add]; simp
    show _ ≤ acS e k (c + 1) (x + e c) ∧ acS e k (c + 1) (x + e c) ≤ _
    rw [e1, e2]
    omega
theorem acO_sp {e : Nat → Int} : ∀ (a b c : Nat) (x : Int), acO e (a + b) c x = acO e b (c + a) (acO e a c x) := by
  intro a
  induction a with
  | zero => intro b c x; rw [Nat.zero_add]; rfl
  | succ a ih => intro b c x; rw [show a + 1 + b = (a + b) + 1 by omega, show c + (a + 1) = c + 1 + a by omega]; exact ih b (c + 1) _
theorem En_at (e : Bk → Nat → Int) (b j : Nat) (hj : j < 4) : En e Z y (4 * b + j) = if su Z 5 (b : Int) y 0 = -1 then 0 else e (Z b) j := by
  unfold En
  rw [show (4 * b + j) / 4 = b by omega, show (4 * b + j) % 4 = j by omega]
theorem En_s4 (e : Bk → Nat → Int) (b : Nat) (x : Int) : acS (En e Z y) 4 (4 * b) x = if su Z 5 (b : Int) y 0 = -1 then x else x + acS (e (Z b)) 4 0 0 := by
  show x + En e Z y (4 * b + 0) + En e Z y (4 * b + 1) + En e Z y (4 * b + 2) + En e Z y (4 * b + 3) = if su Z 5 (b : Int) y 0 = -1 then x else x + (0 + e (Z b) 0 + e (Z b) 1 + e (Z b) 2 + e (Z b) 3)
  rw [En_at e b 0 (by omega), En_at e b 1 (by omega), En_at e b 2 (by omega), En_at e b 3 (by omega)]
  by_cases z : su Z 5 (b : Int) y 0 = -1
  · simp only [if_pos z]; omega
  · simp only [if_neg z]; omega
theorem En_o4 (e : Bk → Nat → Int) (b : Nat) (x : Int) (cx : a_or x 0 = x) : acO (En e Z y) 4 (4 * b) x = if su Z 5 (b : Int) y 0 = -1 then x else a_or x (acO (e (Z b)) 4 0 0) := by
  show a_or (a_or (a_or (a_or x (En e Z y (4 * b + 0))) (En e Z y (4 * b + 1))) (En e Z y (4 * b + 2))) (En e Z y (4 * b + 3)) = if su Z 5 (b : Int) y 0 = -1 then x else a_or x (a_or (a_or (a_or (a_or 0 (e (Z b) 0)) (e (Z b) 1)) (e (Z b) 2)) (e (Z b) 3))
  rw [En_at e b 0 (by omega), En_at e b 1 (by omega), En_at e b 2 (by omega), En_at e b 3 (by omega)]
  by_cases z : su Z 5 (b : Int) y 0 = -1
  · simp only [if_pos z, cx]
  · simp only [if_neg z, or_as, or_0l]
theorem eq0 : ∀ (k c : Nat) (x : Int), acS (En eN Z y) (4 * k) (4 * c) x = cf (gq Z y 0) k c x := by
  intro k
  induction k with
  | zero => intro c x; rfl
  | succ k ih =>
    intro c x
    rw [show 4 * (k + 1) = 4 + 4 * k by omega, acS_sp, show 4 * c + 4 = 4 * (c + 1) by omega, ih, En_s4]
    rfl
theorem eq1 : ∀ (k c : Nat) (x : Int), acS (En eV Z y) (4 * k) (4 * c) x = cf (gq Z y 1) k c x := by
  intro k
  induction k with
  | zero => intro c x; rfl
  | succ k ih =>
    intro c x
    rw [show 4 * (k + 1) = 4 + 4 * k by omega, acS_sp, show 4 * c + 4 = 4 * (c + 1) by omega, ih, En_s4]
    rfl
theorem eq2 : ∀ (k c : Nat) (x : Int), a_or x 0 = x → acO (En eB Z y) (4 * k) (4 * c) x = cf (gq Z y 2) k c x := by
  intro k
  induction k with
  | zero => intro c x _; rfl
  | succ k ih =>
    intro c x cx
    rw [show 4 * (k + 1) = 4 + 4 * k by omega, acO_sp, show 4 * c + 4 = 4 * (c + 1) by omega, En_o4 _ _ _ cx]
    refine ih (c + 1) _ ?_
    by_cases z : su Z 5 (c : Int) y 0 = -1
    · rw [if_pos z]; exact cx
    · rw [if_neg z]; exact or_cn _ _
theorem eq3 : ∀ (k c : Nat) (x : Int), a_or x 0 = x → cf (gin (pin Z y)) k c x = cf (gq Z y 3) k c x := by
  intro k
  induction k with
  | zero => intro c x _; rfl
  | succ k ih =>
    intro c x cx
    show cf (gin (pin Z y)) k (c + 1) (gin (pin Z y) c x) = cf (gq Z y 3) k (c + 1) (gq Z y 3 c x)
    have e : gin (pin Z y) c x = gq Z y 3 c x := by
      have sp := su_pos (Z := Z) (a := (c : Int)) (y := y) (by omega)
      unfold gin pin gq
      by_cases z : (c : Int) ≠ y ∧ su Z 5 (c : Int) y 0 ≠ -1
      · rw [if_pos (by rw [decide_eq_true_eq]; exact z), if_neg z.2, if_neg (by decide), if_neg (by decide), if_neg (by decide), if_pos rfl, if_pos (sp.2 z)]
      · rw [if_neg (by rw [decide_eq_true_eq]; exact z), if_neg (show ¬ (3 : Int) = 0 by decide), if_neg (show ¬ (3 : Int) = 1 by decide), if_neg (show ¬ (3 : Int) = 2 by decide), if_pos rfl, if_neg (fun t => z (sp.1 t)), cx]
        split <;> rfl
    rw [e]
    refine ih (c + 1) _ ?_
    rw [← e]
    unfold gin
    split <;> exact or_cn _ _
theorem bitS {x : Nat} (hx : x < 5) {b : Nat} (hb : b < 5) : a_and (a_shr (a_or (cf (gin (pin Z (x : Int))) 5 0 0) (a_shl 1 (x : Int))) (b : Int)) 1 = 1 ↔ su Z 5 (b : Int) (x : Int) 0 ≠ -1 := by
  have t := in_all ⟨x, hx⟩ ⟨b, hb⟩ (pin Z x 0) (pin Z x 1) (pin Z x 2) (pin Z x 3) (pin Z x 4)
  have e : (if b = 0 then pin Z x 0 else if b = 1 then pin Z x 1 else if b = 2 then pin Z x 2 else if b = 3 then pin Z x 3 else pin Z x 4) = pin Z (x : Int) b := by
    rcases five hb with rfl | rfl | rfl | rfl | rfl <;> rfl
  have t : (rAnd (rShr (rOr (let f := fun (x : Int) (t : Bool) (k : Int) => if t = true then rOr x (rShl 1 k) else rOr x 0; f (f (f (f (f 0 (pin Z x 0) 0) (pin Z x 1) 1) (pin Z x 2) 2) (pin Z x 3) 3) (pin Z x 4) 4) (rShl 1 (x : Int))) (b : Int)) 1 = 1) ↔ ((if b = 0 then pin Z x 0 else if b = 1 then pin Z x 1 else if b = 2 then pin Z x 2 else if b = 3 then pin Z x 3 else pin Z x 4) = true ∨ (⟨b, hb⟩ : Fin 5) = ⟨x, hx⟩) := t
  rw [e] at t
  have c : cf (gin (pin Z (x : Int))) 5 0 0 = (let f := fun (x : Int) (t : Bool) (k : Int) => if t = true then a_or x (a_shl 1 k) else a_or x 0; f (f (f (f (f 0 (pin Z x 0) 0) (pin Z x 1) 1) (pin Z x 2) 2) (pin Z x 3) 3) (pin Z x 4) 4) := rfl
  rw [c, e_and, e_shr, e_or, e_shl]
  rw [t, Fin.mk.injEq]
  unfold pin
  rw [decide_eq_true_eq]
  refine ⟨fun q => ?_, fun q => ?_⟩
  · rcases q with q | q
    · exact q.2
    · rw [q, su_self (by omega)]; decide
  · by_cases z : b = x
    · exact Or.inr z
    · exact Or.inl ⟨by omega, q⟩
end EQS
section OPS
variable {scr : List Int}
theorem op_deep (a b : Int) : Op scr m_Ss_deep m_Mo_deep [(0, a), (0, b)] := by
  intro h I
  obtain ⟨hl, hs, ho', le, un, ke, ma, B, C, iS, iM, iN, iT, iP, iK, iX, iF, iW, iI, iB⟩ := id I
  obtain ⟨pl, be, to, va, br, la, hm⟩ := id iM
  obtain ⟨Z, ro, ho, wh, tg, li, X, M, m, R⟩ := iB.sp hm
  have c1 : cal 58 m_Bs_has [(102, 51), (0, a)] h = some (bI (decide (0 ≤ a ∧ a < 5)), h) := c_bsHas a
  have m1 : cal 58 m_Mo_isBox [(0, a)] h = some (bI (decide (0 ≤ a ∧ a < 5)), h) := m_isBox a
  have c3 : cal 58 m_Ss_isWithin [(0, b), (0, 0), (0, 4)] h = some (bI (decide (0 ≤ b ∧ b ≤ 4)), h) := c_within b 0 4
  have m3 : cal 58 m_Mo_in [(2, b), (2, 0), (2, 4)] h = some (bI (decide (0 ≤ b ∧ b ≤ 4)), h) := m_in b 0 4
  by_cases ha : 0 ≤ a ∧ a < 5
  rotate_left
  · rw [bI_f ha] at c1 m1
    refine ⟨-2, h, h, ?_, hs, ?_, I⟩
    · rw [k_Ss_deep]; simp only [iS.r9, c1, Option.bind_some]; rfl
    · rw [k_Mo_deep]; simp only [m1, Option.bind_some]; rfl
  rw [bI_t ha] at c1 m1
  by_cases hb : 0 ≤ b ∧ b ≤ 4
  rotate_left
  · rw [bI_f hb] at c3 m3
    refine ⟨-3, h, h, ?_, hs, ?_, I⟩
    · rw [k_Ss_deep]; simp only [iS.r9, c1, c3, Option.bind_some]; rfl
    · rw [k_Mo_deep]; simp only [m1, m3, Option.bind_some]; rfl
  rw [bI_t hb] at c3 m3
  obtain ⟨i, rfl⟩ : ∃ x : Nat, a = (x : Int) := ⟨a.toNat, by omega⟩
  have hi : i < 5 := by omega
  have mi := m.1 i hi
  have rR := M.rR (i := (i : Int)) (by omega) (by omega)
  rw [Int.toNat_natCast, (R i hi).1] at rR
  have th : cal 58 m_Bs_isThere [(102, 51), (0, (i : Int))] h = some ((Z i).t, h) := by
    rw [k_Bs_isThere]; simp only [X.ra, X.rb hi, X.f4 hi, Option.bind_some]
    rcases mi.1 with z | z
    · rw [z]; rfl
    · rw [z]; rfl
  by_cases t0 : (Z i).t = 0
  · refine ⟨-11, h, h, ?_, hs, ?_, I⟩
    · rw [k_Ss_deep]; simp only [iS.r9, c1, c3, th, Option.bind_some]; rw [if_neg (by decide), if_neg (by decide), if_pos t0]
    · rw [if_neg (by omega)] at rR
      rw [k_Mo_deep]; simp only [m1, m3, M.a24, rR, Option.bind_some]; rfl
  have t1 : (Z i).t = 1 := by omega
  have r4 := mi.2.2.2.2.2.1 t1
  rw [if_pos t1] at rR
  have bi : cal 58 m_Mo_boxesIn [(107, 108), (0, (i : Int))] h = some (cf (gin (pin Z (i : Int))) 5 0 0, h) := m_boxesIn (d := 56) M R m (by omega)
  have dp : cal 58 m_Mo_depth [(107, 108), (0, (i : Int))] h = some (cf (gq Z (i : Int) 4) 5 0 0, h) := m_depth (d := 57) M R m (by omega)
  have TH : ∀ r, cal 58 m_Bs_throughout [(102, 51), (0, (i : Int)), (0, b)] h = some (r, h) → cal 59 m_Ss_deep [(106, 2), (0, (i : Int)), (0, b)] h = some (r, h) := by
    intro r hr
    rw [k_Ss_deep]; simp only [iS.r9, c1, c3, th, hr, Option.bind_some]; rw [if_neg (by decide), if_neg (by decide), if_neg t0]
  obtain ⟨v', ml⟩ := m_de59 (d := 58) (q := b) (y := (i : Int)) M R m (fun c hc => bitS (Z := Z) hi hc) 20 0 0 0 0 (9, 0) (by omega) (by omega) (by omega) (by omega) (by omega)
  have MD : ∀ r, run 59 m_Mo_deep 59 [(107, 108), (0, (i : Int)), (0, b), (0, a_or (cf (gin (pin Z (i : Int))) 5 0 0) (a_shl 1 (i : Int))), (0, acS (En eN Z (i : Int)) 20 0 0), (0, acS (En eV Z (i : Int)) 20 0 0), (0, acO (En eB Z (i : Int)) 20 0 0), (0, 20), v'] [] h = some (r, h) → cal 59 m_Mo_deep [(107, 108), (0, (i : Int)), (0, b)] h = some (r, h) := by
    intro r hr
    rw [k_Mo_deep]; simp only [m1, m3, M.a24, rR, bi, Option.bind_some]
    rw [if_neg (by decide), if_neg (by decide), if_neg (by omega)]
    exact ml.trans hr
  have CT : ∀ x : Int, (b = 0 → 0 ≤ x ∧ x ≤ 4 * ((0 : Nat) : Int)) → (b = 1 → 50000 - 40000 * ((0 : Nat) : Int) ≤ x ∧ x ≤ 50000 + 40000 * ((0 : Nat) : Int)) → run 58 m_Bs_throughout 15 [(102, 51), (0, (i : Int)), (0, b), (0, x), (0, 0), (9, 0)] [] h = some (cf (gq Z (i : Int) b) 5 0 x, h) := fun x p q => c_thr (d := 55) (y := (i : Int)) hb.1 hb.2 X m 5 0 x (9, 0) (by omega) p q
  have ev := acS_b2 (e := En eV Z (i : Int)) (lo := -9999) (hi := 9999) 20 0 0 (fun j _ j1 => by
    unfold En
    by_cases z : su Z 5 ((j / 4 : Nat) : Int) (i : Int) 0 = -1
    · rw [if_pos z]; omega
    · rw [if_neg z]; exact m.vb (by omega) _)
  refine ⟨cf (gq Z (i : Int) b) 5 0 (if b = 1 then 50000 else 0), h, h, TH _ ?_, hs, MD _ ?_, I⟩
  · rw [k_Bs_throughout]
    by_cases b1 : b = 1
    · rw [if_pos b1, if_pos b1]; exact CT _ (fun z => by omega) (fun _ => by omega)
    · rw [if_neg b1, if_neg b1]; exact CT _ (fun _ => by omega) (fun z => absurd z b1)
  · rw [k_Mo_deep_59, if_neg (by decide), bi, dp, Option.bind_some, Option.bind_some]
    by_cases b0 : b = 0
    · rw [if_pos b0, b0, if_neg (by decide)]
      exact congrArg (fun z => some (z, h)) (eq0 5 0 0)
    rw [if_neg b0]
    by_cases b1 : b = 1
    · rw [if_pos b1, b1, if_pos rfl, add_id (by omega) (by omega), ← acS_sh]
      exact congrArg (fun z => some (z, h)) (eq1 5 0 50000)
    rw [if_neg b1, if_neg b1]
    by_cases b2 : b = 2
    · rw [if_pos b2, b2]
      exact congrArg (fun z => some (z, h)) (eq2 5 0 0 or_00)
    rw [if_neg b2]
    by_cases b3 : b = 3
    · rw [if_pos b3, b3]
      exact congrArg (fun z => some (z, h)) (eq3 5 0 0 or_00)
    rw [if_neg b3, show b = 4 by omega]
end OPS
