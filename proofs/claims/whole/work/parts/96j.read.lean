/-! The whole text read, on the class's side. -/
noncomputable def rdF (L : List Int) (le : Int) : Nat → Nat → Nat → Bo → Int × Nat × Bo
  | 0, st, _, D => ((st : Int), 0, D)
  | k + 1, _, p, D =>
    if (clF L le p D.w).1 = true then
      (if (sk L le (clF L le p D.w).2.1 : Int) < le then
        (if L.getD (sk L le (clF L le p D.w).2.1) 0 = 59 then rdF L le k (sk L le (clF L le p D.w).2.1) (tE L le (clF L le p D.w).2.1) (pfB D (clF L le p D.w).2.2.1 (clF L le p D.w).2.2.2.1 (clF L le p D.w).2.2.2.2)
        else ((sk L le (clF L le p D.w).2.1 : Int), k, pfB D (clF L le p D.w).2.2.1 (clF L le p D.w).2.2.2.1 (clF L le p D.w).2.2.2.2))
      else (-1, k, pfB D (clF L le p D.w).2.2.1 (clF L le p D.w).2.2.2.1 (clF L le p D.w).2.2.2.2))
    else (((clF L le p D.w).2.1 : Int), k, D)
section CR
variable {L : List Int} {le : Int} {d : Nat}
theorem c_rd10 : ∀ (k st p : Nat) (s0 : Int) (g : AH) (D : Bo), k ≤ 24 → (k = 0 → s0 = (st : Int)) → (p : Int) ≤ le → CS g L le (25 - (k : Int)) s0 (p : Int) D → ∃ (g' : AH) (cl' st' en' : Int), run (d + 6) m_Te_read 10 [(105, 18), (100, 7)] [] g = some ((rdF L le k st p D).1, g') ∧ CS g' L le cl' st' en' (rdF L le k st p D).2.2 ∧ Fr CB g g' ∧ ((rdF L le k st p D).1 = -1 → cl' = 24 - ((rdF L le k st p D).2.1 : Int)) := by
  intro k
  induction k with
  | zero =>
    intro st p s0 g D k4 k0 hp S
    rw [k0 rfl] at S
    have r2 := S.2.1.r2 (cl := 25 - ((0 : Nat) : Int)) (st := (st : Int)) (en := (p : Int))
    have r3 := S.2.1.r3 (cl := 25 - ((0 : Nat) : Int)) (st := (st : Int)) (en := (p : Int))
    rw [S.same] at r2 r3
    refine ⟨g, _, _, _, ?_, S, Fr.rf, fun z => ?_⟩
    · rw [k_Te_read_10, r2, Option.bind_some, if_pos (by omega), r3]; rfl
    · exact absurd z (by show (st : Int) ≠ -1; omega)
  | succ k ih =>
    intro st p s00 g D k4 k0 hp S
    have l2 := S.2.1.2.2.2.2.1
    have r2 := S.2.1.r2 (cl := 25 - ((k + 1 : Nat) : Int)) (st := s00) (en := (p : Int))
    rw [S.same] at r2
    obtain ⟨g1, st1, en1, a1, S1, F1, e1, b1⟩ := c_clause (d := d) S hp
    unfold rdF
    generalize clF L le p D.w = q at *
    obtain ⟨ok, pos, w, v1, v2⟩ := q
    cases ok with
    | false =>
      have e1 : st1 = (pos : Int) := e1
      have S1 : CS g1 L le (25 - ((k + 1 : Nat) : Int)) st1 en1 D := S1
      have r3 := S1.2.1.r3 (cl := 25 - ((k + 1 : Nat) : Int)) (st := st1) (en := en1)
      rw [S1.same, e1] at r3
      refine ⟨g1, _, _, _, ?_, S1, F1, fun z => absurd z (by show (pos : Int) ≠ -1; omega)⟩
      rw [k_Te_read_10, r2, Option.bind_some, if_neg (by omega), a1, Option.bind_some]
      show (rdf 5 g1 18 3).bind _ = _
      rw [r3]; rfl
    | true =>
      have e1 : en1 = (pos : Int) := e1
      have b1 : (pos : Int) ≤ le := b1
      have S1 : CS g1 L le (25 - ((k + 1 : Nat) : Int)) st1 en1 (pfB D w v1 v2) := S1
      rw [e1] at S1
      obtain ⟨g2, a2, S2, F2⟩ := cs_adv (d := d + 3) S1 b1
      have t := tE_r (L := L) S1.2.1.2.2.2.1 b1
      have s1 := S2.2.1.r1 (cl := 25 - ((k + 1 : Nat) : Int)) (st := ((sk L le pos : Nat) : Int)) (en := ((tE L le pos : Nat) : Int))
      have s2 := S2.2.1.r2 (cl := 25 - ((k + 1 : Nat) : Int)) (st := ((sk L le pos : Nat) : Int)) (en := ((tE L le pos : Nat) : Int))
      have s3 := S2.2.1.r3 (cl := 25 - ((k + 1 : Nat) : Int)) (st := ((sk L le pos : Nat) : Int)) (en := ((tE L le pos : Nat) : Int))
      have s0 := S2.2.1.r0 (cl := 25 - ((k + 1 : Nat) : Int)) (st := ((sk L le pos : Nat) : Int)) (en := ((tE L le pos : Nat) : Int))
      have s9 := fun (i : Nat) (hi : i < 200) => S2.2.1.rl (cl := 25 - ((k + 1 : Nat) : Int)) (st := ((sk L le pos : Nat) : Int)) (en := ((tE L le pos : Nat) : Int)) hi
      have sw := fun v => S2.2.1.w2 (cl := 25 - ((k + 1 : Nat) : Int)) (st := ((sk L le pos : Nat) : Int)) (en := ((tE L le pos : Nat) : Int)) v
      rw [S2.same] at s0 s1 s2 s3 s9 sw
      have HD : ∀ r, ((if ((sk L le pos : Nat) : Int) < le then (rda 22 g2 19 ((sk L le pos : Nat) : Int)).bind (fun y10 => (if y10 = 59 then (wrf 5 g2 18 2 (a_add (25 - ((k + 1 : Nat) : Int)) 1)).bind (fun h12 => run (d + 6) m_Te_read 10 [(105, 18), (100, 7)] [] h12) else some (((sk L le pos : Nat) : Int), g2))) else some (-1, g2)) = r) → run (d + 6) m_Te_read 10 [(105, 18), (100, 7)] [] g = r := by
        intro r hr
        rw [k_Te_read_10, r2, Option.bind_some, if_neg (by omega), a1, Option.bind_some]
        show (cal (d + 5) m_Te_advance [(105, 18)] g1).bind _ = _
        rw [a2, Option.bind_some]
        simp only [s0, s1, s2, s3, Option.bind_some]
        exact hr
      show ∃ (g' : AH) (cl' st' en' : Int), run (d + 6) m_Te_read 10 [(105, 18), (100, 7)] [] g = some ((if ((sk L le pos : Nat) : Int) < le then (if L.getD (sk L le pos) 0 = 59 then rdF L le k (sk L le pos) (tE L le pos) (pfB D w v1 v2) else (((sk L le pos : Nat) : Int), k, pfB D w v1 v2)) else (-1, k, pfB D w v1 v2)).1, g') ∧ CS g' L le cl' st' en' (if ((sk L le pos : Nat) : Int) < le then (if L.getD (sk L le pos) 0 = 59 then rdF L le k (sk L le pos) (tE L le pos) (pfB D w v1 v2) else (((sk L le pos : Nat) : Int), k, pfB D w v1 v2)) else (-1, k, pfB D w v1 v2)).2.2 ∧ Fr CB g g' ∧ ((if ((sk L le pos : Nat) : Int) < le then (if L.getD (sk L le pos) 0 = 59 then rdF L le k (sk L le pos) (tE L le pos) (pfB D w v1 v2) else (((sk L le pos : Nat) : Int), k, pfB D w v1 v2)) else (-1, k, pfB D w v1 v2)).1 = -1 → cl' = 24 - ((if ((sk L le pos : Nat) : Int) < le then (if L.getD (sk L le pos) 0 = 59 then rdF L le k (sk L le pos) (tE L le pos) (pfB D w v1 v2) else (((sk L le pos : Nat) : Int), k, pfB D w v1 v2)) else (-1, k, pfB D w v1 v2)).2.1 : Int))
      by_cases z : ((sk L le pos : Nat) : Int) < le
      · rw [if_pos z]
        rw [if_pos z, s9 _ (by omega), Option.bind_some] at HD
        by_cases y : L.getD (sk L le pos) 0 = 59
        · rw [if_pos y]
          rw [if_pos y, add_id (by omega) (by omega), sw, Option.bind_some] at HD
          obtain ⟨S3, F3⟩ := S2.ts (25 - ((k + 1 : Nat) : Int) + 1) ((sk L le pos : Nat) : Int) ((tE L le pos : Nat) : Int)
          rw [show 25 - ((k + 1 : Nat) : Int) + 1 = 25 - (k : Int) by omega] at S3 F3 HD
          obtain ⟨g', cl', st', en', x1, x2, x3, x4⟩ := ih (sk L le pos) (tE L le pos) _ _ _ (by omega) (fun _ => rfl) t.2.1 S3
          exact ⟨g', cl', st', en', HD _ x1, x2, ((F1.tr F2).tr F3).tr x3, x4⟩
        · rw [if_neg y]
          rw [if_neg y] at HD
          exact ⟨g2, _, _, _, HD _ rfl, S2, F1.tr F2, fun z => absurd z (by show ((sk L le pos : Nat) : Int) ≠ -1; omega)⟩
      · rw [if_neg z]
        rw [if_neg z] at HD
        exact ⟨g2, _, _, _, HD _ rfl, S2, F1.tr F2, fun _ => by show 25 - ((k + 1 : Nat) : Int) = 24 - (k : Int); omega⟩
theorem c_read {g : AH} {cl st en : Int} {D : Bo} (S : CS g L le cl st en D) : ∃ (g' : AH) (cl' st' en' : Int), cal (d + 6) m_Te_read [(105, 18), (100, 7)] g = some ((rdF L le 24 0 0 D).1, g') ∧ CS g' L le cl' st' en' (rdF L le 24 0 0 D).2.2 ∧ Fr CB g g' ∧ ((rdF L le 24 0 0 D).1 = -1 → cl' = 24 - ((rdF L le 24 0 0 D).2.1 : Int)) := by
  have w4 := S.2.1.w4 (cl := cl) (st := st) (en := en) 0
  have w2 := S.2.1.w2 (cl := cl) (st := st) (en := 0) 1
  rw [S.same] at w4
  obtain ⟨S1, F1⟩ := S.ts 1 st 0
  obtain ⟨g', cl', st', en', x1, x2, x3, x4⟩ := c_rd10 (d := d) 24 0 0 st (tS g le 1 st 0) D (by omega) (fun z => by omega) S.2.1.2.2.2.1 S1
  refine ⟨g', cl', st', en', ?_, x2, F1.tr x3, x4⟩
  rw [k_Te_read, w4, Option.bind_some, w2, Option.bind_some]
  exact x1
end CR
