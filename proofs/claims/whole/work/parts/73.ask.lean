/-! What to ask. -/
section ASK
variable {h : AH} {d : Nat} {S g : Int}
theorem c_doAlike {a b : Int} (g0 : 0 ≤ g) (g1 : g ≤ 1000) : cal (d + 2) m_Si_doAlike [(0, a), (0, b), (0, g)] h = some (if Lk a g = Lk b g ∧ bI (Tk a g) = bI (Tk b g) ∧ bI (Yk a g) = bI (Yk b g) then 1 else 0, h) := by
  rw [k_Si_doAlike]
  simp only [c_lifted g0 g1, c_takes, c_yields, Option.bind_some]
  by_cases x1 : Lk a g = Lk b g
  · rw [if_pos x1]
    by_cases x2 : bI (Tk a g) = bI (Tk b g)
    · rw [if_pos x2]
      by_cases x3 : bI (Yk a g) = bI (Yk b g)
      · rw [if_pos x3, if_pos ⟨x1, x2, x3⟩]
      · rw [if_neg x3, if_neg (fun z => x3 z.2.2)]
    · rw [if_neg x2, if_neg (fun z => x2 z.2.1)]
  · rw [if_neg x1, if_neg (fun z => x1 z.1)]
theorem c_gp15 (g0 : 0 ≤ g) (g1 : g ≤ 1000) {m a : Int} {X : AR} {P : Int} : ∀ (k : Nat) (x b : Int) (v : AV), 0 ≤ b → b + (k : Int) = 5 → 0 ≤ x → x ≤ b → P = prt S g a k x b → (∀ w w' w'' : AV, run (d + 3) m_Si_greatestPart 4 [(0, S), (0, g), (0, a_max m P), (0, a_add a 1), w, w', w''] [] h = X) → run (d + 3) m_Si_greatestPart 15 [(0, S), (0, g), (0, m), (0, a), (0, x), (0, b), v] [] h = X := by
  intro k
  induction k with
  | zero => intro x b v b0 e x0 xb hP K; rw [k_Si_greatestPart_15, if_neg (by omega)]; rw [show x = P from hP.symm]; exact K _ _ _
  | succ k ih =>
    intro x b v b0 e x0 xb hP K
    have hP : P = prt S g a k (if a_and (a_shr S a) 1 = 1 ∧ a_and (a_shr S b) 1 = 1 ∧ Lk a g = Lk b g ∧ bI (Tk a g) = bI (Tk b g) ∧ bI (Yk a g) = bI (Yk b g) then x + 1 else x) (b + 1) := hP
    rw [k_Si_greatestPart_15, if_pos (by omega), c_doAlike g0 g1, Option.bind_some, add_id (x := x) (y := 0) (by omega) (by omega), add_id (x := x) (y := 1) (by omega) (by omega), add_id (x := b) (by omega) (by omega), Int.add_zero]
    by_cases x1 : a_and (a_shr S a) 1 = 1
    · rw [if_pos x1]
      by_cases x2 : a_and (a_shr S b) 1 = 1
      · rw [if_pos x2]
        by_cases x3 : Lk a g = Lk b g ∧ bI (Tk a g) = bI (Tk b g) ∧ bI (Yk a g) = bI (Yk b g)
        · rw [if_pos (⟨x1, x2, x3⟩ : _ ∧ _ ∧ _)] at hP
          rw [if_pos x3, if_neg (show ¬ (1 : Int) = 0 by decide)]
          exact ih _ _ _ (by omega) (by omega) (by omega) (by omega) hP K
        · rw [if_neg (fun z => x3 z.2.2)] at hP
          rw [if_neg x3, if_pos (show (0 : Int) = 0 by rfl)]
          exact ih _ _ _ (by omega) (by omega) (by omega) (by omega) hP K
      · rw [if_neg (fun z => x2 z.2.1)] at hP
        rw [if_neg x2]
        exact ih _ _ _ (by omega) (by omega) (by omega) (by omega) hP K
    · rw [if_neg (fun z => x1 z.1)] at hP
      rw [if_neg x1]
      exact ih _ _ _ (by omega) (by omega) (by omega) (by omega) hP K
theorem c_gp4 (g0 : 0 ≤ g) (g1 : g ≤ 1000) : ∀ (k : Nat) (m a : Int) (v w u : AV), 0 ≤ a → a + (k : Int) = 5 → run (d + 3) m_Si_greatestPart 4 [(0, S), (0, g), (0, m), (0, a), v, w, u] [] h = some (gpt S g k m a, h) := by
  intro k
  induction k with
  | zero => intro m a v w u _ e; rw [k_Si_greatestPart_4, if_neg (by omega)]; rfl
  | succ k ih =>
    intro m a v w u a0 e
    rw [k_Si_greatestPart_4, if_pos (by omega)]
    refine c_gp15 g0 g1 5 0 0 u (by omega) (by omega) (by omega) (by omega) rfl (fun w w' w'' => ?_)
    rw [a_max_def, add_id (by omega) (by omega)]
    exact ih _ _ _ _ _ (by omega) (by omega)
theorem c_q15 : ∀ (k : Nat) (l f g : Int) (v : AV), 0 ≤ g → g + (k : Int) = 13 → run (d + 4) m_Si_question 15 [(104, 46), (0, S), (0, l), (0, f), (0, g), v] [] h = some (qst S k l f g, h) := by
  intro k
  induction k with
  | zero => intro l f g v _ e; rw [k_Si_question_15, if_pos (by omega)]; rfl
  | succ k ih =>
    intro l f g v g0 e
    have : cal (d + 3) m_Si_greatestPart [(0, S), (0, g)] h = some (gpt S g 5 0 0, h) := by
      rw [k_Si_greatestPart]; exact c_gp4 g0 (by omega) 5 0 0 _ _ _ (by omega) (by omega)
    rw [k_Si_question_15, if_neg (by omega), this, Option.bind_some, add_id (by omega) (by omega)]
    show _ = some (if gpt S g 5 0 0 < l then qst S k (gpt S g 5 0 0) g (g + 1) else qst S k l f (g + 1), h)
    by_cases z : gpt S g 5 0 0 < l
    · rw [if_pos z, if_pos z]; exact ih _ _ _ _ (by omega) (by omega)
    · rw [if_neg z, if_neg z]; exact ih _ _ _ _ (by omega) (by omega)
theorem m_a61 (s0 : 0 ≤ S) (s1 : S < 32) (g0 : 0 ≤ g) (g1 : g ≤ 1000) {al be le m a : Int} (a0 : 0 ≤ a) (a5 : a < 5) {X : AR} {P : Int} : ∀ (k : Nat) (x b : Int), 0 ≤ b → b + (k : Int) = 5 → 0 ≤ x → x ≤ b → P = prt S g a k x b → (∀ w w' : AV, run (d + 3) m_Mo_ask 49 [(107, 108), (0, S), (0, al), (0, be), (0, le), (0, g), (0, if m < P then P else m), (0, a + 1), w, w'] [] h = X) → run (d + 3) m_Mo_ask 61 [(107, 108), (0, S), (0, al), (0, be), (0, le), (0, g), (0, m), (0, a), (0, x), (0, b)] [] h = X := by
  intro k
  induction k with
  | zero =>
    intro x b b0 e x0 xb hP K
    rw [k_Mo_ask_61, if_neg (by omega), add_id (by omega) (by omega)]
    rw [show P = x from hP] at K
    by_cases z : m < x
    · rw [if_pos z]; rw [if_pos z] at K; exact K _ _
    · rw [if_neg z]; rw [if_neg z] at K; exact K _ _
  | succ k ih =>
    intro x b b0 e x0 xb hP K
    have hP : P = prt S g a k (if a_and (a_shr S a) 1 = 1 ∧ a_and (a_shr S b) 1 = 1 ∧ Lk a g = Lk b g ∧ bI (Tk a g) = bI (Tk b g) ∧ bI (Yk a g) = bI (Yk b g) then x + 1 else x) (b + 1) := hP
    have hb := bit2 s0 s1 a0 a5 b0 (show b < 5 by omega)
    have o3 := of3 (L := Lk a g) (l := Lk b g) (T := Tk a g) (Y := Yk a g) (bI01 (Tk b g)) (bI01 (Yk b g))
    rw [k_Mo_ask_61, if_pos (by omega)]
    simp only [m_isOf a0 (show a ≤ 4 by omega) g0 g1, m_isOf b0 (show b ≤ 4 by omega) g0 g1, Option.bind_some]
    rw [add_id (x := x) (y := 0) (by omega) (by omega), add_id (x := x) (y := 1) (by omega) (by omega), add_id (x := b) (by omega) (by omega), Int.add_zero]
    by_cases x1 : a_and (a_shr S a) 1 = 1 ∧ a_and (a_shr S b) 1 = 1
    · rw [if_pos (hb.mpr x1)]
      by_cases x3 : Lk a g = Lk b g ∧ bI (Tk a g) = bI (Tk b g) ∧ bI (Yk a g) = bI (Yk b g)
      · rw [if_pos (⟨x1.1, x1.2, x3⟩ : _ ∧ _ ∧ _)] at hP
        rw [if_pos (o3.mpr x3)]
        exact ih _ _ (by omega) (by omega) (by omega) (by omega) hP K
      · rw [if_neg (fun z => x3 z.2.2)] at hP
        rw [if_neg (fun z => x3 (o3.mp z))]
        exact ih _ _ (by omega) (by omega) (by omega) (by omega) hP K
    · rw [if_neg (fun z => x1 ⟨z.1, z.2.1⟩)] at hP
      rw [if_neg (fun z => x1 (hb.mp z))]
      exact ih _ _ (by omega) (by omega) (by omega) (by omega) hP K
theorem m_a49 (s0 : 0 ≤ S) (s1 : S < 32) (g0 : 0 ≤ g) (g1 : g ≤ 12) {al be le : Int} {X : AR} {P : Int} (K1 : P < le → ∀ w w' w'' w''' : AV, run (d + 3) m_Mo_ask 36 [(107, 108), (0, S), (0, al), (0, g), (0, P), (0, g + 1), w, w', w'', w'''] [] h = X) (K2 : ¬ P < le → ∀ w w' w'' w''' : AV, run (d + 3) m_Mo_ask 36 [(107, 108), (0, S), (0, al), (0, be), (0, le), (0, g + 1), w, w', w'', w'''] [] h = X) : ∀ (k : Nat) (m a : Int) (v w : AV), 0 ≤ a → a + (k : Int) = 5 → P = gpt S g k m a → run (d + 3) m_Mo_ask 49 [(107, 108), (0, S), (0, al), (0, be), (0, le), (0, g), (0, m), (0, a), v, w] [] h = X := by
  intro k
  induction k with
  | zero =>
    intro m a v w _ e hP
    have hP : P = m := hP
    subst hP
    rw [k_Mo_ask_49, if_neg (by omega), add_id (by omega) (by omega)]
    by_cases z : P < le
    · rw [if_pos z, if_pos z]; exact K1 z _ _ _ _
    · rw [if_neg z, if_neg z]; exact K2 z _ _ _ _
  | succ k ih =>
    intro m a v w a0 e hP
    rw [k_Mo_ask_49, if_pos (by omega)]
    refine m_a61 s0 s1 g0 (by omega) a0 (by omega) 5 0 0 (by omega) (by omega) (by omega) (by omega) rfl (fun w w' => ?_)
    exact ih _ _ _ _ (by omega) (by omega) hP
theorem m_a36 (s0 : 0 ≤ S) (s1 : S < 32) {al : Int} : ∀ (k : Nat) (l f g : Int) (v w v' w' : AV), 0 ≤ g → g + (k : Int) = 13 → run (d + 3) m_Mo_ask 36 [(107, 108), (0, S), (0, al), (0, f), (0, l), (0, g), v, w, v', w'] [] h = some (qst S k l f g, h) := by
  intro k
  induction k with
  | zero => intro l f g v w v' w' _ e; rw [k_Mo_ask_36, if_neg (by omega)]; rfl
  | succ k ih =>
    intro l f g v w v' w' g0 e
    rw [k_Mo_ask_36, if_pos (by omega)]
    refine m_a49 (P := gpt S g 5 0 0) s0 s1 g0 (by omega) (fun z w w' w'' w''' => ?_) (fun z w w' w'' w''' => ?_) 5 0 0 _ _ (by omega) (by omega) rfl
    · rw [ih _ _ _ _ _ _ _ (by omega) (by omega)]
      show _ = some (if gpt S g 5 0 0 < l then qst S k (gpt S g 5 0 0) g (g + 1) else qst S k l f (g + 1), h)
      rw [if_pos z]
    · rw [ih _ _ _ _ _ _ _ (by omega) (by omega)]
      show _ = some (if gpt S g 5 0 0 < l then qst S k (gpt S g 5 0 0) g (g + 1) else qst S k l f (g + 1), h)
      rw [if_neg z]
theorem m_a9 {x c : Int} {v1 v2 v3 v4 v5 v6 : AV} (c0 : 0 ≤ c) (c5 : c < 5) : run (d + 1) m_Mo_ask 9 [(107, 108), (0, S), (0, x), (0, c), v1, v2, v3, v4, v5, v6] [] h = run (d + 1) m_Mo_ask 9 [(107, 108), (0, S), (0, a_add x (a_and (a_shr S c) 1)), (0, c + 1), v1, v2, v3, v4, v5, v6] [] h := by
  rw [k_Mo_ask_9, if_pos c5, add_id (x := c) (by omega) (by omega)]
end ASK
section OPS
variable {scr : List Int}
theorem op_kinds : Op scr m_Ss_kinds m_Mo_kinds [] := by
  intro h I
  obtain ⟨hl, hs, ho, le, un, ke, ma, B, C, iS, ⟨pl, be, to, va, br, la, hm⟩, iN, iT, iP, iK, iX, iF, iW, ⟨m0, m1, s1, s2, s3, s4, s5, y1, y2, y3, y4, y5, y6, y7⟩, iB⟩ := id I
  have c1 := c_possible (d := 55) y1 y2 y3 y4 y5 y7 m0 m1 5 0 0 (by omega) (by omega)
  have n1 := m_kinds4 (d := 56) hm y6 y7 m0 m1 5 0 0 (9, 0) (9, 0) (by omega) (by omega)
  refine ⟨kdF (fun c => fitN s1 s2 s3 s4 c ma.toNat 0) 5 0 0, h, h, ?_, hs, ?_, I⟩
  · rw [k_Ss_kinds, iS.r8, Option.bind_some, k_Si_possible]
    have c1 : run (57 + 1) m_Si_possible 4 [(104, 46), (0, 0), (0, 0)] [] h = _ := c1
    rw [c1]
    rfl
  · rw [k_Mo_kinds]; exact n1
theorem op_ask : Op scr m_Ss_ask m_Mo_ask [] := by
  intro h I
  obtain ⟨hl, hs, ho, le, un, ke, ma, B, C, iS, ⟨pl, be, to, va, br, la, hm⟩, iN, iT, iP, iK, iX, iF, iW, ⟨m0, m1, s1, s2, s3, s4, s5, y1, y2, y3, y4, y5, y6, y7⟩, iB⟩ := id I
  have c1 : cal 57 m_Si_possible [(104, 46)] h = some (kdF (fun c => fitN s1 s2 s3 s4 c ma.toNat 0) 5 0 0, h) := by
    rw [k_Si_possible]; exact c_possible (d := 54) y1 y2 y3 y4 y5 y7 m0 m1 5 0 0 (by omega) (by omega)
  have n1 : cal 58 m_Mo_kinds [(107, 108)] h = some (kdF (fun c => fitN s1 s2 s3 s4 c ma.toNat 0) 5 0 0, h) := by
    rw [k_Mo_kinds]; exact m_kinds4 (d := 55) hm y6 y7 m0 m1 5 0 0 (9, 0) (9, 0) (by omega) (by omega)
  have hr := kd_r (fun c => fitN s1 s2 s3 s4 c ma.toNat 0)
  generalize kdF (fun c => fitN s1 s2 s3 s4 c ma.toNat 0) 5 0 0 = S at c1 n1 hr
  obtain ⟨s0, s32⟩ := hr
  refine ⟨qst S 13 (rBC S) (-1) 0, h, h, ?_, hs, ?_, I⟩
  · rw [k_Ss_ask, iS.r8, Option.bind_some, k_Si_question]
    simp only [c1, c_bitCount, Option.bind_some]
    rw [c_q15 13 _ _ _ _ (by omega) (by omega)]
    rfl
  · rw [k_Mo_ask, n1, Option.bind_some]
    show run (58 + 1) m_Mo_ask 9 [(107, 108), (0, S), (0, 0), (0, 0), (9, 0), (9, 0), (9, 0), (9, 0), (9, 0), (9, 0)] [] h = _
    rw [m_a9 (by omega) (by omega), m_a9 (by omega) (by omega), m_a9 (by omega) (by omega), m_a9 (by omega) (by omega), m_a9 (by omega) (by omega), k_Mo_ask_9, if_neg (by omega)]
    have e : rS5 S = rBC S := by
      obtain ⟨S, rfl⟩ := finI (n := 32) s0 s32
      exact (bc32 S).1.symm
    rw [e_and, e_shr, e_add]
    show run (58 + 1) m_Mo_ask 36 [(107, 108), (0, S), (0, rS5 S), (0, -1), (0, rS5 S), (0, 0), (9, 0), (9, 0), (9, 0), (9, 0)] [] h = _
    rw [e]
    exact m_a36 s0 s32 13 _ _ _ _ _ _ _ (by omega) (by omega)
end OPS
