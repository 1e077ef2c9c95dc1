/-! Fractions; luck. -/
theorem c_gcd7 {d : Nat} {h : AH} {o p : Int} : ∀ (k a r : Nat) (n : Int) (v : AV), r < 2 ^ k → a ≤ 216000 → r ≤ 216000 → 0 ≤ n → n + 2 * (k : Int) + 1 ≤ 64 → run (d + 1) m_Fo_commonDivisor 7 [(0, o), (0, p), (0, (a : Int)), (0, (r : Int)), (0, n), v] [] h = some ((Nat.gcd a r : Int), h) := by
  intro k
  induction k with
  | zero =>
    intro a r n v hr a1 r1 n0 n1
    have r0 : r = 0 := by
      have : (2 : Nat) ^ 0 = 1 := rfl
      omega
    subst r0
    rw [k_Fo_commonDivisor_7, if_pos (by omega), if_neg (by omega), Nat.gcd_zero_right]
  | succ k ih =>
    intro a r n v hr a1 r1 n0 n1
    by_cases z : r = 0
    · subst z
      rw [k_Fo_commonDivisor_7, if_pos (by omega), if_neg (by omega), Nat.gcd_zero_right]
    · have g1 : Nat.gcd a r = Nat.gcd r (a % r) := by rw [Nat.gcd_comm a r, Nat.gcd_rec r a, Nat.gcd_comm]
      have lt1 : a % r < r := Nat.mod_lt _ (by omega)
      have rem1 : a_rem (a : Int) (r : Int) = ((a % r : Nat) : Int) := by
        rw [rem_id ⟨by omega, by omega⟩ ⟨by omega, by omega⟩ (by omega) (by omega), Int.natCast_emod]
      rw [k_Fo_commonDivisor_7, if_pos (by omega), if_pos (by omega), if_neg (by omega), rem1, add_id (by omega) (by omega), g1]
      by_cases y : a % r = 0
      · rw [y, k_Fo_commonDivisor_7, if_pos (by omega), if_neg (by omega), Nat.gcd_zero_right]
      · have g2 : Nat.gcd r (a % r) = Nat.gcd (a % r) (r % (a % r)) := by rw [Nat.gcd_comm r, Nat.gcd_rec (a % r) r, Nat.gcd_comm]
        have lt2 : r % (a % r) < a % r := Nat.mod_lt _ (by omega)
        have le2 : r % (a % r) + a % r ≤ r := by
          have e := Nat.mod_add_div r (a % r)
          have q1 : 1 ≤ r / (a % r) := Nat.div_pos (by omega) (by omega)
          have q2 : (a % r) * 1 ≤ (a % r) * (r / (a % r)) := Nat.mul_le_mul_left _ q1
          omega
        have ps : (2 : Nat) ^ (k + 1) = 2 ^ k * 2 := Nat.pow_succ 2 k
        have rem2 : a_rem (r : Int) ((a % r : Nat) : Int) = ((r % (a % r) : Nat) : Int) := by
          rw [rem_id ⟨by omega, by omega⟩ ⟨by omega, by omega⟩ (by omega) (by omega), Int.natCast_emod r (a % r)]
        rw [k_Fo_commonDivisor_7, if_pos (by omega), if_pos (by omega), if_neg (by omega), rem2, add_id (by omega) (by omega), g2]
        exact ih (a % r) (r % (a % r)) _ _ (by omega) (by omega) (by omega) (by omega) (by omega)
theorem c_gcd {d : Nat} {h : AH} {r : Nat} (r1 : r ≤ 216000) : cal (d + 1) m_Fo_commonDivisor [(0, 216000), (0, (r : Int))] h = some ((Nat.gcd 216000 r : Int), h) := by
  rw [k_Fo_commonDivisor]
  exact c_gcd7 18 216000 r 0 (9, 0) (by omega) (by omega) r1 (by omega) (by omega)
theorem m_part6 {d : Nat} {h : AH} {x y part : Int} : ∀ (b a : Nat) (v w : AV), a ≤ 1000000000 → b ≤ 1000000000 → Nat.gcd a b ≠ 0 → run (d + 1) m_Mo_part 6 [(2, x), (8, 0), (2, y), (8, 0), (0, part), (2, (a : Int)), (8, 0), (2, (b : Int)), (8, 0), v, w] [] h = some (w32 (a_ldiv (if part = 0 then x else y) (Nat.gcd a b : Int)), h) := by
  intro b
  induction b using Nat.strongRecOn with
  | _ b ih =>
    intro a v w a1 b1 g0
    have ec : (a_lcmp (b : Int) 0 = 0) = ((b : Int) = 0) := by
      rw [a_lcmp_def]
      apply propext
      split
      · constructor <;> intro <;> omega
      · split <;> constructor <;> intro <;> omega
    rw [k_Mo_part_6]
    simp only [ec]
    by_cases z : b = 0
    · subst z
      rw [Nat.gcd_zero_right] at g0 ⊢
      rw [if_pos (by omega)]
      by_cases q : part = 0
      · rw [if_pos q, if_pos q, if_neg (by omega)]
      · rw [if_neg q, if_neg q, if_neg (by omega)]
    · have g1 : Nat.gcd a b = Nat.gcd b (a % b) := by rw [Nat.gcd_comm a b, Nat.gcd_rec b a, Nat.gcd_comm]
      have lt1 : a % b < b := Nat.mod_lt _ (by omega)
      have rem1 : a_lrem (a : Int) (b : Int) = ((a % b : Nat) : Int) := by
        rw [lrem_id (by omega) (by omega) (by omega) (by omega), Int.natCast_emod]
      rw [if_neg (by omega), if_neg (by omega), rem1, g1]
      rw [g1] at g0
      exact ih (a % b) lt1 b _ _ b1 (by omega) g0
section OPS
variable {scr : List Int}
theorem op_luck (a b : Int) : Op scr m_Ss_luck m_Mo_luck [(0, a), (0, b)] := by
  intro h I
  obtain ⟨hl, hs, ho, le, un, ke, ma, B, C, iS, ⟨pl, be, to, va, br, la, hm⟩, iN, iT, iP, iK, iX, iF, iW, iI, iB⟩ := id I
  obtain ⟨H, e9, p⟩ := id iN
  obtain ⟨G1, G2, g3, E⟩ := id p
  have t01 := G1.1.t01
  have w2 := G2.1.w2
  have w5 := G2.1.w5
  have c1 : cal 58 m_Ss_isWithin [(0, a), (0, 1), (0, 3)] h = some (bI (decide (1 ≤ a ∧ a ≤ 3)), h) := c_within a 1 3
  have m1 : ∀ g : AH, cal 58 m_Mo_in [(2, a), (2, 1), (2, 3)] g = some (bI (decide (1 ≤ a ∧ a ≤ 3)), g) := fun g => m_in a 1 3
  have c2 : cal 58 m_Ss_isWithin [(0, b), (0, 0), (0, 1)] h = some (bI (decide (0 ≤ b ∧ b ≤ 1)), h) := c_within b 0 1
  have m2 : ∀ g : AH, cal 58 m_Mo_in [(2, b), (2, 0), (2, 1)] g = some (bI (decide (0 ≤ b ∧ b ≤ 1)), g) := fun g => m_in b 0 1
  by_cases ha : 1 ≤ a ∧ a ≤ 3
  rotate_left
  · rw [bI_f ha] at c1 m1
    refine ⟨-3, h, h, ?_, hs, ?_, I⟩
    · rw [k_Ss_luck]; simp only [c1, Option.bind_some]; rfl
    · rw [k_Mo_luck]; simp only [m1, Option.bind_some]; rfl
  rw [bI_t ha] at c1 m1
  by_cases hb : 0 ≤ b ∧ b ≤ 1
  rotate_left
  · rw [bI_f hb] at c2 m2
    refine ⟨-3, h, h, ?_, hs, ?_, I⟩
    · rw [k_Ss_luck]; simp only [c1, c2, Option.bind_some]; rfl
    · rw [k_Mo_luck]; simp only [m1, m2, Option.bind_some]; rfl
  rw [bI_t hb] at c2 m2
  have ea : ((a.toNat : Nat) : Int) = a := by omega
  -- the class
  obtain ⟨Y, hY, oY⟩ := iF.2.2 0 (by omega)
  have hY : BdH h 22 Y := hY
  have r0 : rdar 24 h 21 0 = some 22 := iF.rd (by omega) (by omega)
  have cp : cal 57 m_Bd_copy [(100, 22), (100, 11)] h = some (0, setB h 22 B) := c_copy (n := 22) (n' := 11) hY H oY G1.1 (by omega)
  have F1 : FoI (setB h 22 B) := iF.st (i := 0) (by omega) G1.1
  have T1 : Fr (fun j => 20 ≤ j ∧ j < 46) h (setB h 22 B) := fr_setB hY.lt (fun j a b => by omega)
  have H1 : BdH (setB h 22 B) 22 B := bdH_set hY.lt
  generalize setB h 22 B = g1 at cp F1 T1 H1
  have ct : cal 57 m_Bd_turn [(100, 11)] g1 = some (B.t, g1) := c_turn (n := 11) (H.fr T1 (fun j a b => by omega))
  obtain ⟨g2, s1, F2, H2, T2⟩ := c_leading (d := 50 - a.toNat) (sd' := B.t) a.toNat 0 B g1 216000 (by omega) G1 (by omega) F1 H1 (by omega) (by omega)
  rw [show 50 - a.toNat + a.toNat + 7 = 57 by omega, ea] at s1
  have s1 : cal 57 m_Fo_leading [(103, 20), (0, 0), (0, a), (0, 216000), (0, B.t)] g1 = some (cl a.toNat B 216000 B.t, g2) := s1
  have T12 : Fr (fun j => 20 ≤ j ∧ j < 46) h g2 := T1.tr (T2.wd (fun j z => by omega))
  -- the numbers
  obtain ⟨q, hQ⟩ : ∃ q : Nat, (216000 : Int) = (60 : Int) ^ a.toNat * (q : Int) ∧ 0 < q ∧ (60 : Nat) ^ a.toNat * q = 216000 := by
    rcases (show a = 1 ∨ a = 2 ∨ a = 3 by omega) with rfl | rfl | rfl
    · exact ⟨3600, by decide, by decide, by decide⟩
    · exact ⟨60, by decide, by decide, by decide⟩
    · exact ⟨1, by decide, by decide, by decide⟩
  have p60 : 0 ≤ (60 : Int) ^ a.toNat ∧ (60 : Int) ^ a.toNat ≤ 216000 ∧ 0 < (60 : Int) ^ a.toNat := by
    rcases (show a = 1 ∨ a = 2 ∨ a = 3 by omega) with rfl | rfl | rfl <;> decide
  have li := cl_lin a.toNat B (q : Int) B.t G1 (by omega)
  rw [← hQ.1] at li
  have cr := cl_r a.toNat B ((60 : Int) ^ a.toNat) B.t p60.1
  have cr2 := cl_r a.toNat B 216000 B.t (by omega)
  obtain ⟨N, hN⟩ : ∃ N : Nat, cl a.toNat B ((60 : Int) ^ a.toNat) B.t = (N : Int) := ⟨(cl a.toNat B ((60 : Int) ^ a.toNat) B.t).toNat, by omega⟩
  obtain ⟨P, hP⟩ : ∃ P : Nat, (60 : Int) ^ a.toNat = (P : Int) := ⟨((60 : Int) ^ a.toNat).toNat, by omega⟩
  rw [hN] at li cr
  have PQ : P * q = 216000 := by
    have : (P : Int) * (q : Int) = 216000 := by rw [← hP]; exact hQ.1.symm
    have e : ((P * q : Nat) : Int) = 216000 := by rw [Int.natCast_mul]; exact this
    omega
  have Pp : 0 < P := by omega
  have gq : Nat.gcd 216000 (q * N) = q * Nat.gcd P N := by
    rw [← PQ, Nat.mul_comm P q, Nat.gcd_mul_left]
  have gp : 0 < Nat.gcd P N := Nat.gcd_pos_of_pos_left _ Pp
  have gle : Nat.gcd P N ≤ P := Nat.gcd_le_left _ Pp
  have qN : ((q * N : Nat) : Int) = (q : Int) * (N : Int) := Int.natCast_mul q N
  have li2 : cl a.toNat B 216000 B.t = ((q * N : Nat) : Int) := by rw [qN]; exact li
  have qN1 : q * N ≤ 216000 := by omega
  have d1 : q * N / (q * Nat.gcd P N) = N / Nat.gcd P N := Nat.mul_div_mul_left _ _ hQ.2.1
  have d2 : 216000 / (q * Nat.gcd P N) = P / Nat.gcd P N := by rw [← PQ, Nat.mul_comm P q, Nat.mul_div_mul_left _ _ hQ.2.1]
  have qg : 0 < q * Nat.gcd P N := Nat.mul_pos hQ.2.1 gp
  have qg1 : q * Nat.gcd P N ≤ 216000 := by rw [← PQ, Nat.mul_comm P q]; exact Nat.mul_le_mul_left _ gle
  have N216 : N ≤ 216000 := by omega
  have ans : cal 58 m_Fo_odds [(103, 20), (100, 11), (0, a), (0, b)] h = some (if b = 0 then ((N / Nat.gcd P N : Nat) : Int) else ((P / Nat.gcd P N : Nat) : Int), g2) := by
    have cg := c_gcd (d := 56) (h := g2) qN1
    rw [gq, ← li2] at cg
    have e1 : a_div (cl a.toNat B 216000 B.t) ((q * Nat.gcd P N : Nat) : Int) = ((N / Nat.gcd P N : Nat) : Int) := by
      rw [li2, div_id ⟨by omega, by omega⟩ ⟨by omega, by omega⟩ (by omega) (by omega), ← Int.natCast_ediv, d1]
    have e2 : a_div 216000 ((q * Nat.gcd P N : Nat) : Int) = ((P / Nat.gcd P N : Nat) : Int) := by
      rw [div_id ⟨by omega, by omega⟩ ⟨by omega, by omega⟩ (by omega) (by omega), show (216000 : Int) = ((216000 : Nat) : Int) from rfl, ← Int.natCast_ediv, d2]
    rw [k_Fo_odds]
    simp only [iF.r0, r0, cp, ct, s1, Option.bind_some]
    have cg : cal 57 m_Fo_commonDivisor [(0, 216000), (0, cl a.toNat B 216000 B.t)] g2 = some (((q * Nat.gcd P N : Nat) : Int), g2) := cg
    rw [cg, Option.bind_some]
    show (if 0 < ((q * Nat.gcd P N : Nat) : Int) then _ else _) = _
    rw [if_pos (by omega), e1, e2]
    by_cases z : b = 0
    · rw [if_pos z, if_pos z, if_neg (by show ¬ ((q * Nat.gcd P N : Nat) : Int) = 0; omega)]
    · rw [if_neg z, if_neg z, if_neg (by show ¬ ((q * Nat.gcd P N : Nat) : Int) = 0; omega)]
  -- the model
  have hm2 : g2[108]? = some (7, hM le pl be to va br un ke la ma) := by rw [T12.g _ (by omega)]; exact hm
  have e92 : g2[109]? = some (20, row C) := by rw [T12.g _ (by omega)]; exact e9
  have W2 := iW.fr T12 (by omega) (by omega) (fun j a b => by omega) (by omega) (by omega)
  obtain ⟨s, S, ys⟩ := ws_of hm2 e92 G2.1 W2
  have M := S.mn ys
  have q1 : rdr 7 g2 108 0 = some 109 := M.now
  have q2 : rda 20 g2 109 1 = some B.t := by rw [← E.2.1]; exact M.rt
  have q3 : rda 20 g2 109 0 = some C.w := M.rw0
  obtain ⟨g5, s5, b5, S5, ys5, Bg, -, T5⟩ := m_begins (d := 57) (t := 0) S ys (by omega)
  have b5 : cal 58 m_Mo_begins [(107, 108), (0, 0)] g2 = some (0, g5) := b5
  have N0 : ∀ j, ¬ (j = 108 ∨ j = 109 ∨ (116 ≤ j ∧ j < 121)) → ¬ W0 j := fun j z => z
  obtain ⟨wt, ew, lw⟩ := W2.2.2.2.2.2.2.2.1.fr T5 (N0 _ (by omega))
  have rw' : rdr 7 g5 108 21 = some 121 := hq S5 rfl (by omega)
  have ww : wra 23 g5 121 0 (P : Int) = some (g5.set 121 (23, wt.set 0 (P : Int))) := wra_i (n := 121) ew (by omega) (by show 0 < wt.length; omega) _
  have T6 : Fr (fun j => j = 121) g5 (g5.set 121 (23, wt.set 0 (P : Int))) := fr_set rfl
  have ew6 : (g5.set 121 (23, wt.set 0 (P : Int)))[121]? = some (23, wt.set 0 (P : Int)) := getS (gtl ew)
  have S6 : WS (g5.set 121 (23, wt.set 0 (P : Int))) (le, pl, be, to, va, br, un, ke, ma) s5 := ⟨by rw [getN (by omega)]; exact S5.h, by rw [getN (by omega)]; exact S5.y, by rw [getN (by omega)]; exact S5.r, by rw [getN (by omega)]; exact S5.o, by rw [getN (by omega)]; exact S5.l, by rw [getN (by omega)]; exact S5.i, by rw [getN (by omega)]; exact S5.n, S5.ly, S5.lr, S5.lo, S5.ll, S5.lI, S5.ln⟩
  generalize g5.set 121 (23, wt.set 0 (P : Int)) = g6 at ww T6 ew6 S6
  obtain ⟨g7, s7, wt7, v, v', x1, S7, -, x3, x4, -, T7, A7⟩ := lsub_all (n0 := 54) (n := a.toNat) (part := b) (side := B.t) (below := (P : Int)) t01 a.toNat 0 C s5 g6 (wt.set 0 (P : Int)) (P : Int) 0 (9, 0) (9, 0) (by omega) (by omega) G2 (by rw [E.2.2.2.2.1]; omega) S6 Bg.1 Bg.2.1 ew6 (by rw [List.length_set]; exact lw) (List.getElem?_set_self (by omega)) (by omega) (by omega) (by omega) (by omega)
  rw [ea, Int.zero_add, ← hP, cl_eq _ _ _ _ _ E G1 G2 (by omega), hN, hP] at x1
  have x1 : run 59 m_Mo_luck 87 [(107, 108), (0, a), (0, b), (0, B.t), (0, 2 * C.w), (2, (P : Int)), (8, 0), (2, 0), (8, 0), (0, 0), (9, 0), (9, 0)] [] g6 = run 59 m_Mo_luck 87 [(107, 108), (0, a), (0, b), (0, B.t), (0, 2 * C.w), (2, (P : Int)), (8, 0), (2, (N : Int)), (8, 0), (0, -1), v, v'] [] g7 := x1
  obtain ⟨g8, s8, l8, S8, ys8, y1, y2, y3, y4, y5, T8⟩ := m_lay (n0 := 54) (t := 0) S7 (by omega) A7 G2.1
  have l8 : cal 58 m_Mo_laysBack [(107, 108), (0, 0)] g7 = some (0, g8) := l8
  have gc : Nat.gcd N P = Nat.gcd P N := Nat.gcd_comm _ _
  have pt : cal 58 m_Mo_part [(2, (N : Int)), (2, (P : Int)), (0, b)] g8 = some (if b = 0 then ((N / Nat.gcd P N : Nat) : Int) else ((P / Nat.gcd P N : Nat) : Int), g8) := by
    have := m_part6 (d := 57) (h := g8) (x := (N : Int)) (y := (P : Int)) (part := b) P N (9, 0) (9, 0) (by omega) (by omega) (by omega)
    rw [gc] at this
    rw [k_Mo_part, this]
    by_cases z : b = 0
    · have l := Nat.div_le_self N (Nat.gcd P N)
      have l0 : (0 : Int) ≤ ((N / Nat.gcd P N : Nat) : Int) := Int.natCast_nonneg _
      rw [if_pos z, if_pos z, ldiv_id (by omega) (by omega) (by omega) (by omega), ← Int.natCast_ediv, w32_id ⟨by omega, by omega⟩]
    · have l := Nat.div_le_self P (Nat.gcd P N)
      have l0 : (0 : Int) ≤ ((P / Nat.gcd P N : Nat) : Int) := Int.natCast_nonneg _
      rw [if_neg z, if_neg z, ldiv_id (by omega) (by omega) (by omega) (by omega), ← Int.natCast_ediv, w32_id ⟨by omega, by omega⟩]
  have E48 : run 59 m_Mo_luck 48 [(107, 108), (0, a), (0, b), (0, B.t), (0, 2 * C.w), (2, 1), (8, 0), (0, 0), (9, 0), (9, 0), (9, 0), (9, 0)] [] g2 = run 59 m_Mo_luck 48 [(107, 108), (0, a), (0, b), (0, B.t), (0, 2 * C.w), (2, (P : Int)), (8, 0), (0, a), (9, 0), (9, 0), (9, 0), (9, 0)] [] g2 := by
    rw [← hP]
    rcases (show a = 1 ∨ a = 2 ∨ a = 3 by omega) with z | z | z
    · rw [z, k_Mo_luck_48, if_pos (by omega), lmul_id (by omega) (by omega), add_id (by omega) (by omega)]
      rfl
    · rw [z, k_Mo_luck_48, if_pos (by omega), lmul_id (by omega) (by omega), add_id (by omega) (by omega), k_Mo_luck_48, if_pos (by omega), lmul_id (by omega) (by omega), add_id (by omega) (by omega)]
      rfl
    · rw [z, k_Mo_luck_48, if_pos (by omega), lmul_id (by omega) (by omega), add_id (by omega) (by omega), k_Mo_luck_48, if_pos (by omega), lmul_id (by omega) (by omega), add_id (by omega) (by omega), k_Mo_luck_48, if_pos (by omega), lmul_id (by omega) (by omega), add_id (by omega) (by omega)]
      rfl
  have TT : Fr W6 g2 g8 := (((w06 T5).tr (T6.wd (fun j z => by unfold W6; omega))).tr T7).tr (w06 T8)
  have N6 : ∀ j, ¬ (j = 108 ∨ j = 109 ∨ (116 ≤ j ∧ j < 122)) → ¬ W6 j := fun j z => z
  refine ⟨if b = 0 then ((N / Nat.gcd P N : Nat) : Int) else ((P / Nat.gcd P N : Nat) : Int), g2, g8, ?_, by rw [T12.g _ (by omega)]; exact hs, ?_, ?_⟩
  · rw [k_Ss_luck]
    simp only [c1, c2, iS.r7, iS.r2, ans, Option.bind_some]
    rfl
  · rw [k_Mo_luck]
    simp only [m1, m2, q1, q2, q3, Option.bind_some]
    rw [if_neg (by decide), if_neg (by decide), mul_id (by omega) (by omega)]
    refine E48.trans ?_
    rw [k_Mo_luck_48, if_neg (by omega)]
    simp only [b5, rw', ww, Option.bind_some]
    refine x1.trans ?_
    rw [k_Mo_luck_87, if_pos (by omega)]
    simp only [l8, pt, Option.bind_some]
  · have L121 : LnI g8 121 23 6 := ⟨wt7, by rw [T8.g _ (N0 _ (by omega))]; exact x3, x4⟩
    obtain ⟨w1, w2', -, -, -, -, -, -, w9, w10⟩ := W2
    exact inv_fo (B := B) (C := C) hl hs ho iS iT iP iK iX iI iB ((T12.wd (fun j z => by omega)).tr (TT.wd (fun j z => by unfold W6 at z; omega))) ⟨pl, be, to, va, br, s8.la, S8.h⟩ ⟨(H.fr T12 (fun j a b => by omega)).fr TT (fun j a b => N6 j (by omega)), by rw [← ys8]; exact S8.y, p⟩ (F2.fr TT (fun j a b => N6 j (by omega))) ⟨w1.fr TT (N6 _ (by omega)), w2'.fr TT (N6 _ (by omega)), ⟨s8.R, S8.r, S8.lr⟩, ⟨s8.ho, S8.o, S8.lo⟩, ⟨s8.ls, S8.l, S8.ll⟩, ⟨s8.il, S8.i, S8.lI⟩, ⟨s8.li, S8.n, S8.ln⟩, L121, w9.fr TT (N6 _ (by omega)), w10.fr TT (N6 _ (by omega))⟩
end OPS
