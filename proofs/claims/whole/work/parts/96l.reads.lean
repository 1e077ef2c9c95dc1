/-! A clause, on the model's side. -/
def pmB (R : Bo) (w a c : Int) : Bo := if w = 5 then bd1 a else if w = 6 then R.setS a c else if w = 7 then R.setBn a c else if w = 8 then R.setT a else R.setK a w
section PM
variable {B C : Bo} {i v : Int}
theorem row_S (O : BoOK B) (h0 : 0 ≤ i) (h1 : i < 10) : (row B).set (15 + i).toNat v = row (B.setS i v) := by
  rw [show (15 + i).toNat = (10 + i.toNat) + 1 + 1 + 1 + 1 + 1 by omega]
  show B.w :: B.t :: B.b0 :: B.b1 :: B.m :: (B.ks ++ B.ss).set (10 + i.toNat) v = _
  rw [List.set_append_right _ _ (by rw [O.kl]; omega), O.kl, show 10 + i.toNat - 10 = i.toNat by omega]
  rfl
theorem row_K (O : BoOK B) (h0 : 0 ≤ i) (h1 : i < 10) : (row B).set (5 + i).toNat v = row (B.setK i v) := by
  rw [show (5 + i).toNat = i.toNat + 1 + 1 + 1 + 1 + 1 by omega]
  show B.w :: B.t :: B.b0 :: B.b1 :: B.m :: (B.ks ++ B.ss).set i.toNat v = _
  rw [List.set_append_left _ _ (by rw [O.kl]; omega)]
  rfl
theorem row_B (hs : i = 0 ∨ i = 1) : (row B).set (2 + i).toNat v = row (B.setBn i v) := by
  rcases hs with rfl | rfl <;> rfl
theorem row_T : (row B).set 1 v = row (B.setT v) := rfl
theorem GB.setBn (G : GB B) (v0 : 0 ≤ v) (v1 : v ≤ 99) : GB (B.setBn i v) := by
  have m0 : 0 ≤ B.m := G.1.2.2.2.2.2.2.2.1
  refine ⟨ok_setBn G.1 v0 (by omega), ?_, ?_⟩
  · show (if i = 0 then v else B.b0) ≤ 99 + 495 * B.m
    have := G.2.1
    split <;> omega
  · show (if i = 0 then B.b1 else v) ≤ 99 + 495 * B.m
    have := G.2.2
    split <;> omega
theorem Pr.pm (p : Pr B C) {w a c : Int} (w0 : 0 ≤ w) (w8 : w ≤ 8) (ha : loF w ≤ a ∧ a ≤ hiF w B.w) (h6 : w = 6 → 0 ≤ c ∧ c ≤ 30) (h7 : w = 7 → 0 ≤ c ∧ c ≤ 99) : Pr (pfB B w a c) (pmB C w a c) := by
  have O := p.1.1
  have w5 := O.w5
  unfold loF hiF at ha
  unfold pfB pmB
  by_cases z5 : w = 5
  · rw [if_pos z5, if_pos z5] at ha
    rw [if_pos z5, if_pos z5]; exact pr_bd (by omega) (by omega)
  rw [if_neg z5, if_neg z5] at ha
  rw [if_neg z5, if_neg z5]
  by_cases z6 : w = 6
  · have := h6 z6
    rw [if_neg (by omega)] at ha
    rw [if_pos z6, if_pos z6]; exact p.setS (by omega) (by omega) (by omega) (by omega)
  rw [if_neg z6, if_neg z6]
  by_cases z7 : w = 7
  · have := h7 z7
    rw [if_pos z7, if_pos z7]; exact ⟨p.1.setBn (by omega) (by omega), p.2.1.setBn (by omega) (by omega), p.2.2.1, p.2.2.2.setBn⟩
  rw [if_neg z7, if_neg z7]
  by_cases z8 : w = 8
  · rw [if_pos (by omega)] at ha
    rw [if_pos z8, if_pos z8]
    exact ⟨⟨ok_setT p.1.1 (by omega), p.1.2⟩, ⟨ok_setT p.2.1.1 (by omega), p.2.1.2⟩, p.2.2.1, ⟨p.2.2.2.1, rfl, p.2.2.2.2.2⟩⟩
  · rw [if_neg (by omega)] at ha
    rw [if_neg z8, if_neg z8]; exact p.setK (by omega) (by omega) (by omega) (by omega)
end PM
section MR
variable {h : AH} {L : List Int} {le un ke la ma : Int} {d p : Nat}
theorem MT.r8 {ys : List Int} (S : MT h L le un ke la ma p ys) : rdf 7 h 108 8 = some (-1) := by
  obtain ⟨v, S⟩ := S; exact hmf S.1 rfl
theorem MT.r9 {ys : List Int} (S : MT h L le un ke la ma p ys) : rdr 7 h 108 9 = some 112 := by
  obtain ⟨v, S⟩ := S; exact hmr S.1 rfl (by omega)
theorem MF.r8 {b : Nat} {ys : List Int} (S : MF h L le un ke la ma b ys) : rdf 7 h 108 8 = some (b : Int) := by
  obtain ⟨_, _, _, _, S⟩ := S; exact hmf S.1 rfl
theorem MF.r9 {b : Nat} {ys : List Int} (S : MF h L le un ke la ma b ys) : rdr 7 h 108 9 = some 112 := by
  obtain ⟨_, _, _, _, S⟩ := S; exact hmr S.1 rfl (by omega)
theorem MT.wr {ys : List Int} (S : MT h L le un ke la ma p ys) {i : Int} (i0 : 0 ≤ i) (i1 : i < 25) (v : Int) : ∃ h' : AH, wra 20 h 112 i v = some h' ∧ MT h' L le un ke la ma p (ys.set i.toNat v) ∧ Fr MB h h' := by
  obtain ⟨v0, S⟩ := S
  obtain ⟨S1, F1⟩ := S.ro (zs := ys.set i.toNat v) (by rw [List.length_set]; exact S.2.2.2)
  exact ⟨_, wra_i (n := 112) S.2.2.1 i0 (by have := S.2.2.2; omega) v, ⟨v0, S1⟩, F1⟩
theorem MF.wr {b : Nat} {ys : List Int} (S : MF h L le un ke la ma b ys) {i : Int} (i0 : 0 ≤ i) (i1 : i < 25) (v : Int) : ∃ h' : AH, wra 20 h 112 i v = some h' ∧ MF h' L le un ke la ma b (ys.set i.toNat v) ∧ Fr MB h h' := by
  obtain ⟨pl, be, to, va, S⟩ := S
  obtain ⟨S1, F1⟩ := S.ro (zs := ys.set i.toNat v) (by rw [List.length_set]; exact S.2.2.2)
  exact ⟨_, wra_i (n := 112) S.2.2.1 i0 (by have := S.2.2.2; omega) v, ⟨pl, be, to, va, S1⟩, F1⟩
theorem MT.r0 {R : Bo} (S : MT h L le un ke la ma p (row R)) : rda 20 h 112 0 = some R.w := by
  obtain ⟨v0, S⟩ := S
  have := rda_i (n := 112) S.2.2.1 (i := 0) (by omega)
  exact this
theorem MF.r0 {b : Nat} {ys : List Int} (S : MF h L le un ke la ma b ys) : ∃ x, rda 20 h 112 0 = some x := by
  obtain ⟨_, _, _, _, S⟩ := S
  exact ⟨_, rdA (n := 112) (i := 0) S.2.2.1 (by omega) (by have := S.2.2.2; omega)⟩
/-- what comes of a clause -/
def RS (h h' : AH) (L : List Int) (le un ke la ma : Int) (D R : Bo) (q : Bool × Nat × Int × Int × Int) : Prop := Fr MB h h' ∧ (q.1 = true → MT h' L le un ke la ma q.2.1 (row (pmB R q.2.2.1 q.2.2.2.1 q.2.2.2.2)) ∧ Pr (pfB D q.2.2.1 q.2.2.2.1 q.2.2.2.2) (pmB R q.2.2.1 q.2.2.2.1 q.2.2.2.2)) ∧ (q.1 = false → ∃ ys, MF h' L le un ke la ma q.2.1 ys)
theorem m_reads {D R : Bo} (S : MT h L le un ke la ma p (row R)) (hp : (p : Int) ≤ le) (P : Pr D R) : ∃ h' : AH, cal (d + 6) m_Mo_reads [(107, 108)] h = some (0, h') ∧ RS h h' L le un ke la ma D R (clF L le p D.w) := by
  have l0 : 0 ≤ le := by obtain ⟨_, S⟩ := S; exact S.2.1.2.2.2.1
  have O := P.1.1
  have OR := P.2.1.1
  have w5 := O.w5
  have w2 := O.w2
  have ew : R.w = D.w := P.2.2.2.1
  have t0 := tE_r (L := L) l0 hp
  have t1 := tE_r (L := L) l0 t0.2.1
  have t2 := tE_r (L := L) l0 t1.2.1
  have code := m_code (d := d) S hp
  have cr := cwd_r (L := L) (sk L le p) (tE L le p)
  unfold clF
  generalize cwd L (sk L le p) (tE L le p) = w at *
  by_cases z : w = -1
  · obtain ⟨h1, a1, S1, F1⟩ := m_must0 (d := d + 1) S
    obtain ⟨x0, e0⟩ := S1.r0
    obtain ⟨u, e1⟩ := m_numF (d := d) (lo := 0) (hi := a_sub (a_mul 2 x0) 1) S1
    rw [if_pos z]
    refine ⟨h1, code _ ?_, F1, fun q => absurd q Bool.false_ne_true, fun _ => ⟨_, S1⟩⟩
    rw [if_pos z, show mcd w = 0 from if_pos z, k_Mo_reads_27]
    show (cal (d + 5) m_Mo_must _ h).bind _ = _
    rw [a1, Option.bind_some]
    simp only [S1.r9, e0, e1, Option.bind_some]
    rw [if_neg (by decide), if_neg (by decide), if_neg (by decide), if_neg (by decide), k_Mo_reads_153, S1.r8, Option.bind_some, if_neg (by omega), k_Mo_reads_180]
  rw [if_neg z]
  rw [if_neg z] at code
  obtain ⟨h1, a1, S1, F1⟩ := m_must1 (d := d + 1) S hp
  have HD : ∀ r : AR, ((if mcd w = 1 then (cal (d + 5) m_Mo_number [(107, 108), (0, 2), (0, 5)] h1).bind (fun q2 => (rdf 7 q2.2 108 8).bind (fun y3 => (if y3 < 0 then (rdr 7 q2.2 108 9).bind (fun y4 => (cal (d + 5) m_Mo_atFirst [(120, y4), (0, q2.1)] q2.2).bind (fun q5 => some (0, q5.2))) else some (0, q2.2)))) else (if mcd w = 4 then (cal (d + 5) m_Mo_number [(107, 108), (0, 0), (0, 1)] h1).bind (fun q7 => (wra 20 q7.2 112 1 q7.1).bind (fun h8 => some (0, h8))) else (if mcd w = 3 then (cal (d + 5) m_Mo_number [(107, 108), (0, 0), (0, 1)] h1).bind (fun q9 => (cal (d + 5) m_Mo_number [(107, 108), (0, 0), (0, 99)] q9.2).bind (fun q10 => (rdf 7 q10.2 108 8).bind (fun y11 => (if y11 < 0 then (rdr 7 q10.2 108 9).bind (fun y12 => (wra 20 q10.2 y12 (a_add 2 q9.1) q10.1).bind (fun h13 => some (0, h13))) else some (0, q10.2))))) else (cal (d + 5) m_Mo_number [(107, 108), (0, 0), (0, 2 * D.w - 1)] h1).bind (fun q16 => (if mcd w = 2 then (cal (d + 5) m_Mo_number [(107, 108), (0, 0), (0, 30)] q16.2).bind (fun q17 => run (d + 6) m_Mo_reads 153 [(107, 108), (0, mcd w), (0, q16.1), (9, 0)] [(0, q17.1)] q17.2) else run (d + 6) m_Mo_reads 153 [(107, 108), (0, mcd w), (0, q16.1), (9, 0)] [(0, a_sub (mcd w) 5)] q16.2))))) = r) → cal (d + 6) m_Mo_reads [(107, 108)] h = r := by
    intro r hr
    apply code
    rw [k_Mo_reads_27]
    show (cal (d + 5) m_Mo_must _ h).bind _ = _
    rw [a1, Option.bind_some]
    simp only [S1.r9, S1.r0, Option.bind_some, k_Mo_reads_57, k_Mo_reads_116, k_Mo_reads_180]
    rw [ew, mul_id (by omega) (by omega), sub_id (by omega) (by omega)]
    exact hr
  have n1 := m_num (d := d) (lo := loF w) (hi := hiF w D.w) S1 t0.2.1 (by unfold loF; split <;> omega)
  have r1 := rdN_r (L := L) (le := le) (b := sk L le (tE L le p)) (e := tE L le (tE L le p)) (lo := loF w) (hi := hiF w D.w)
  generalize rdN L le (sk L le (tE L le p)) (tE L le (tE L le p)) (loF w) (hiF w D.w) = v1 at *
  have mw : mcd w = if w ≤ 4 then w + 5 else w - 4 := by unfold mcd; rw [if_neg z]
  rw [mw] at HD
  by_cases y : v1 = -1
  · -- the first number is none
    rw [if_pos y]
    obtain ⟨u, h2, a2, S2, F2⟩ := n1.2 y
    have F12 := F1.tr F2
    have done : cal (d + 6) m_Mo_reads [(107, 108)] h = some (0, h2) → ∃ h' : AH, cal (d + 6) m_Mo_reads [(107, 108)] h = some (0, h') ∧ RS h h' L le un ke la ma D R (false, sk L le (tE L le p), 0, 0, 0) := fun q => ⟨h2, q, F12, fun q => absurd q Bool.false_ne_true, fun _ => ⟨_, S2⟩⟩
    unfold loF hiF at a2
    by_cases z5 : w = 5
    · rw [if_pos z5, if_pos z5] at a2
      apply done
      apply HD
      rw [if_neg (show ¬ w ≤ 4 by omega), if_pos (show w - 4 = 1 by omega), a2, Option.bind_some]
      show (rdf 7 h2 108 8).bind _ = _
      rw [S2.r8, Option.bind_some, if_neg (by omega)]
    rw [if_neg z5, if_neg z5] at a2
    by_cases z8 : w = 8
    · rw [if_pos (by omega)] at a2
      obtain ⟨h3, a3, S3, F3⟩ := S2.wr (i := 1) (by omega) (by omega) u
      refine ⟨h3, ?_, F12.tr F3, fun q => absurd q Bool.false_ne_true, fun _ => ⟨_, S3⟩⟩
      apply HD
      rw [if_neg (show ¬ w ≤ 4 by omega), if_neg (show ¬ w - 4 = 1 by omega), if_pos (show w - 4 = 4 by omega), a2, Option.bind_some]
      show (wra 20 h2 112 1 u).bind _ = _
      rw [a3]; rfl
    by_cases z7 : w = 7
    · rw [if_pos (by omega)] at a2
      obtain ⟨u2, e2⟩ := m_numF (d := d) (lo := 0) (hi := 99) S2
      apply done
      apply HD
      rw [if_neg (show ¬ w ≤ 4 by omega), if_neg (show ¬ w - 4 = 1 by omega), if_neg (show ¬ w - 4 = 4 by omega), if_pos (show w - 4 = 3 by omega), a2, Option.bind_some]
      show (cal (d + 5) m_Mo_number _ h2).bind _ = _
      rw [e2, Option.bind_some]
      show (rdf 7 h2 108 8).bind _ = _
      rw [S2.r8, Option.bind_some, if_neg (by omega)]
    rw [if_neg (by omega)] at a2
    by_cases z6 : w = 6
    · obtain ⟨u2, e2⟩ := m_numF (d := d) (lo := 0) (hi := 30) S2
      apply done
      apply HD
      rw [if_neg (show ¬ w ≤ 4 by omega), if_neg (show ¬ w - 4 = 1 by omega), if_neg (show ¬ w - 4 = 4 by omega), if_neg (show ¬ w - 4 = 3 by omega), a2, Option.bind_some, if_pos (show w - 4 = 2 by omega)]
      show (cal (d + 5) m_Mo_number _ h2).bind _ = _
      rw [e2, Option.bind_some]
      show run (d + 6) m_Mo_reads 153 _ _ h2 = _
      rw [k_Mo_reads_153, S2.r8, Option.bind_some, if_neg (by omega), k_Mo_reads_180]
    · apply done
      apply HD
      rw [if_pos (show w ≤ 4 by omega), if_neg (show ¬ w + 5 = 1 by omega), if_neg (show ¬ w + 5 = 4 by omega), if_neg (show ¬ w + 5 = 3 by omega), a2, Option.bind_some, if_neg (show ¬ w + 5 = 2 by omega)]
      show run (d + 6) m_Mo_reads 153 _ _ h2 = _
      rw [k_Mo_reads_153, S2.r8, Option.bind_some, if_neg (by omega), k_Mo_reads_180]
  -- the first number
  rw [if_neg y]
  have r1 : loF w ≤ v1 ∧ v1 ≤ hiF w D.w := by omega
  obtain ⟨h2, a2, S2, F2⟩ := n1.1 y
  have F12 := F1.tr F2
  have r1' := r1
  unfold loF hiF at a2 r1'
  by_cases z67 : w = 6 ∨ w = 7
  · rw [if_pos z67]
    have n2 := m_num (d := d) (lo := 0) (hi := if w = 6 then 30 else 99) S2 t1.2.1 (by omega)
    have r2 := rdN_r (L := L) (le := le) (b := sk L le (tE L le (tE L le p))) (e := tE L le (tE L le (tE L le p))) (lo := 0) (hi := if w = 6 then 30 else 99)
    generalize rdN L le (sk L le (tE L le (tE L le p))) (tE L le (tE L le (tE L le p))) 0 (if w = 6 then 30 else 99) = v2 at *
    rw [if_neg (by omega), if_neg (by omega)] at a2
    rw [if_neg (by omega), if_neg (by omega)] at r1'
    by_cases x : v2 = -1
    · rw [if_pos x]
      obtain ⟨u, h3, a3, S3, F3⟩ := n2.2 x
      refine ⟨h3, ?_, F12.tr F3, fun q => absurd q Bool.false_ne_true, fun _ => ⟨_, S3⟩⟩
      apply HD
      by_cases z6 : w = 6
      · rw [if_neg (by omega)] at a2
        rw [if_pos z6] at a3
        rw [if_neg (show ¬ w ≤ 4 by omega), if_neg (show ¬ w - 4 = 1 by omega), if_neg (show ¬ w - 4 = 4 by omega), if_neg (show ¬ w - 4 = 3 by omega), a2, Option.bind_some, if_pos (show w - 4 = 2 by omega)]
        show (cal (d + 5) m_Mo_number _ h2).bind _ = _
        rw [a3, Option.bind_some]
        show run (d + 6) m_Mo_reads 153 _ _ h3 = _
        rw [k_Mo_reads_153, S3.r8, Option.bind_some, if_neg (by omega), k_Mo_reads_180]
      · rw [if_pos (by omega)] at a2
        rw [if_neg z6] at a3
        rw [if_neg (show ¬ w ≤ 4 by omega), if_neg (show ¬ w - 4 = 1 by omega), if_neg (show ¬ w - 4 = 4 by omega), if_pos (show w - 4 = 3 by omega), a2, Option.bind_some]
        show (cal (d + 5) m_Mo_number _ h2).bind _ = _
        rw [a3, Option.bind_some]
        show (rdf 7 h3 108 8).bind _ = _
        rw [S3.r8, Option.bind_some, if_neg (by omega)]
    rw [if_neg x]
    obtain ⟨h3, a3, S3, F3⟩ := n2.1 x
    have h6 : w = 6 → 0 ≤ v2 ∧ v2 ≤ 30 := fun q => by rw [if_pos q] at r2; omega
    have h7 : w = 7 → 0 ≤ v2 ∧ v2 ≤ 99 := fun q => by rw [if_neg (by omega)] at r2; omega
    have PP := P.pm (by omega) cr.2 r1 h6 h7
    by_cases z6 : w = 6
    · rw [if_neg (by omega)] at a2 r1'
      rw [if_pos z6] at a3
      obtain ⟨h4, a4, S4, F4⟩ := S3.wr (i := 15 + v1) (by omega) (by omega) v2
      rw [row_S OR (by omega) (by omega)] at S4
      have e : pmB R w v1 v2 = R.setS v1 v2 := by unfold pmB; rw [if_neg (by omega), if_pos z6]
      rw [← e] at S4
      refine ⟨h4, ?_, (F12.tr F3).tr F4, fun _ => ⟨S4, PP⟩, fun q => absurd q (show ¬ (true = false) by decide)⟩
      apply HD
      rw [if_neg (show ¬ w ≤ 4 by omega), if_neg (show ¬ w - 4 = 1 by omega), if_neg (show ¬ w - 4 = 4 by omega), if_neg (show ¬ w - 4 = 3 by omega), a2, Option.bind_some, if_pos (show w - 4 = 2 by omega)]
      show (cal (d + 5) m_Mo_number _ h2).bind _ = _
      rw [a3, Option.bind_some]
      show run (d + 6) m_Mo_reads 153 [(107, 108), (0, w - 4), (0, v1), (9, 0)] [(0, v2)] h3 = _
      rw [k_Mo_reads_153, S3.r8, Option.bind_some, if_pos (by decide), S3.r9, Option.bind_some, if_pos (by omega), add_id (by omega) (by omega), a4, Option.bind_some, k_Mo_reads_180]
    · rw [if_pos (by omega)] at a2 r1'
      rw [if_neg z6] at a3
      obtain ⟨h4, a4, S4, F4⟩ := S3.wr (i := 2 + v1) (by omega) (by omega) v2
      rw [row_B (by omega)] at S4
      have e : pmB R w v1 v2 = R.setBn v1 v2 := by unfold pmB; rw [if_neg (by omega), if_neg z6, if_pos (by omega)]
      rw [← e] at S4
      refine ⟨h4, ?_, (F12.tr F3).tr F4, fun _ => ⟨S4, PP⟩, fun q => absurd q (show ¬ (true = false) by decide)⟩
      apply HD
      rw [if_neg (show ¬ w ≤ 4 by omega), if_neg (show ¬ w - 4 = 1 by omega), if_neg (show ¬ w - 4 = 4 by omega), if_pos (show w - 4 = 3 by omega), a2, Option.bind_some]
      show (cal (d + 5) m_Mo_number _ h2).bind _ = _
      rw [a3, Option.bind_some]
      show (rdf 7 h3 108 8).bind (fun y11 => (if y11 < 0 then (rdr 7 h3 108 9).bind (fun y12 => (wra 20 h3 y12 (a_add 2 v1) v2).bind (fun h13 => some (0, h13))) else some (0, h3))) = _
      rw [S3.r8, Option.bind_some, if_pos (by decide), S3.r9, Option.bind_some, add_id (by omega) (by omega), a4]; rfl
  · rw [if_neg z67]
    have PP := P.pm (c := 0) (by omega) cr.2 r1 (fun q => absurd (Or.inl q) z67) (fun q => absurd (Or.inr q) z67)
    by_cases z5 : w = 5
    · rw [if_pos z5, if_pos z5] at a2 r1'
      have e : pmB R w v1 0 = bd1 v1 := by unfold pmB; rw [if_pos z5]
      obtain ⟨v0, S2'⟩ := id S2
      have af : cal (d + 5) m_Mo_atFirst [(120, 112), (0, v1)] h2 = some (0, h2.set 112 (20, row (bd1 v1))) := m_atFirst (a := 112) S2'.2.2.1 S2'.2.2.2 (by omega) (by omega)
      obtain ⟨S3, F3⟩ := S2'.ro (zs := row (bd1 v1)) (row_len (ok_bd1 (by omega) (by omega)))
      rw [← e] at S3 F3
      refine ⟨_, ?_, F12.tr F3, fun _ => ⟨⟨v0, S3⟩, PP⟩, fun q => absurd q (show ¬ (true = false) by decide)⟩
      apply HD
      rw [if_neg (show ¬ w ≤ 4 by omega), if_pos (show w - 4 = 1 by omega), a2, Option.bind_some]
      show (rdf 7 h2 108 8).bind (fun y3 => (if y3 < 0 then (rdr 7 h2 108 9).bind (fun y4 => (cal (d + 5) m_Mo_atFirst [(120, y4), (0, v1)] h2).bind (fun q5 => some (0, q5.2))) else some (0, h2))) = _
      rw [S2.r8, Option.bind_some, if_pos (by decide), S2.r9, Option.bind_some, af, Option.bind_some, e]
    rw [if_neg z5, if_neg z5] at a2 r1'
    by_cases z8 : w = 8
    · rw [if_pos (by omega)] at a2 r1'
      have e : pmB R w v1 0 = R.setT v1 := by unfold pmB; rw [if_neg z5, if_neg (by omega), if_neg (by omega), if_pos z8]
      obtain ⟨h3, a3, S3, F3⟩ := S2.wr (i := 1) (by omega) (by omega) v1
      have S3 : MT h3 L le un ke la ma (tE L le (tE L le p)) (row (R.setT v1)) := S3
      rw [← e] at S3
      refine ⟨h3, ?_, F12.tr F3, fun _ => ⟨S3, PP⟩, fun q => absurd q (show ¬ (true = false) by decide)⟩
      apply HD
      rw [if_neg (show ¬ w ≤ 4 by omega), if_neg (show ¬ w - 4 = 1 by omega), if_pos (show w - 4 = 4 by omega), a2, Option.bind_some]
      show (wra 20 h2 112 1 v1).bind _ = _
      rw [a3]; rfl
    · rw [if_neg (by omega)] at a2 r1'
      have e : pmB R w v1 0 = R.setK v1 w := by unfold pmB; rw [if_neg z5, if_neg (by omega), if_neg (by omega), if_neg z8]
      obtain ⟨h3, a3, S3, F3⟩ := S2.wr (i := 5 + v1) (by omega) (by omega) w
      rw [row_K OR (by omega) (by omega), ← e] at S3
      refine ⟨h3, ?_, F12.tr F3, fun _ => ⟨S3, PP⟩, fun q => absurd q (show ¬ (true = false) by decide)⟩
      apply HD
      rw [if_pos (show w ≤ 4 by omega), if_neg (show ¬ w + 5 = 1 by omega), if_neg (show ¬ w + 5 = 4 by omega), if_neg (show ¬ w + 5 = 3 by omega), a2, Option.bind_some, if_neg (show ¬ w + 5 = 2 by omega), sub_id (by omega) (by omega), show w + 5 - 5 = w by omega]
      show run (d + 6) m_Mo_reads 153 [(107, 108), (0, w + 5), (0, v1), (9, 0)] [(0, w)] h2 = _
      rw [k_Mo_reads_153, S2.r8, Option.bind_some, if_pos (by decide), S2.r9, Option.bind_some, if_neg (by omega), add_id (by omega) (by omega), a3, Option.bind_some, k_Mo_reads_180]
end MR
