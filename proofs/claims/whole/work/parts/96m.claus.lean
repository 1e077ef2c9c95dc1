/-! All the clauses, on the model's side. -/
section MC
variable {L : List Int} {le un ke la ma : Int} {d : Nat}
theorem tk_34 {h : AH} (H : LH h L le) {b : Nat} (hb : (b : Int) ≤ le) : (tkT L le b = 4 ↔ ¬ (b : Int) < le) ∧ (tkT L le b = 3 ↔ (b : Int) < le ∧ L.getD b 0 = 59) := by
  have l2 := H.2.2.2.2.1
  by_cases z : (b : Int) < le
  · have c := ch_in (L := L) z
    have cr := H.2.2.2.2.2 b (by omega)
    unfold tkT
    rw [c]
    by_cases a1 : 97 ≤ L.getD b 0 ∧ L.getD b 0 ≤ 122
    · rw [if_pos a1]; omega
    rw [if_neg a1]
    by_cases a2 : 48 ≤ L.getD b 0 ∧ L.getD b 0 ≤ 57
    · rw [if_pos a2]
      by_cases a3 : te L le b ≤ b + 2
      · rw [if_pos a3]; omega
      · rw [if_neg a3]; omega
    rw [if_neg a2]
    by_cases a4 : L.getD b 0 = 59
    · rw [if_pos a4]; omega
    · rw [if_neg a4, if_neg (by omega)]; omega
  · have c : ch L le b = -1 := ch_out (by omega)
    unfold tkT
    rw [c, if_neg (by omega), if_neg (by omega), if_neg (by omega), if_pos (by omega)]
    omega
def CRs (h h' : AH) (L : List Int) (le un ke la ma x : Int) (r : Int × Nat × Bo) : Prop := 0 < x ∧ Fr MB h h' ∧ (r.1 = -1 → x = 24 - (r.2.1 : Int) ∧ ∃ (p' : Nat) (R' : Bo), MT h' L le un ke la ma p' (row R') ∧ Pr r.2.2 R') ∧ (r.1 ≠ -1 → ∃ (b : Nat) (ys : List Int), MF h' L le un ke la ma b ys ∧ r.1 = (b : Int))
theorem clF_le {p : Nat} {W : Int} (l0 : 0 ≤ le) (hp : (p : Int) ≤ le) : ((clF L le p W).2.1 : Int) ≤ le := by
  have t0 := tE_r (L := L) l0 hp
  have t1 := tE_r (L := L) l0 t0.2.1
  have t2 := tE_r (L := L) l0 t1.2.1
  unfold clF
  split
  · exact t0.2.2
  · split
    · exact t1.2.2
    · split
      · split
        · split
          · exact t2.2.2
          · exact t2.2.1
        · split
          · exact t2.2.2
          · exact t2.2.1
      · exact t1.2.1
theorem m_cl0 {x : Int} {h : AH} : run (d + 7) m_Mo_clauses 44 [(107, 108), (0, x), (0, 0)] [] h = some (x, h) := by
  rw [k_Mo_clauses_44, if_pos rfl]
theorem m_cls {k st p : Nat} {x1 : Int} {h : AH} {D R : Bo} (xk : x1 + ((k + 1 : Nat) : Int) = 24) (x0 : 0 ≤ x1) (hp : (p : Int) ≤ le) (S : MT h L le un ke la ma p (row R)) (P : Pr D R) (K : 0 < k → ∀ (st p : Nat) (h2 : AH) (D R : Bo), (p : Int) ≤ le → MT h2 L le un ke la ma p (row R) → Pr D R → ∃ (x : Int) (h' : AH), run (d + 7) m_Mo_clauses 44 [(107, 108), (0, x1 + 1), (0, 1)] [] h2 = some (x, h') ∧ CRs h2 h' L le un ke la ma x (rdF L le k st p D)) : ∃ (x : Int) (h' : AH), run (d + 7) m_Mo_clauses 44 [(107, 108), (0, x1), (0, 1)] [] h = some (x, h') ∧ CRs h h' L le un ke la ma x (rdF L le (k + 1) st p D) := by
  have l0 : 0 ≤ le := by obtain ⟨_, S⟩ := S; exact S.2.1.2.2.2.1
  obtain ⟨h1, a1, F1, OK1, NO1⟩ := m_reads (d := d) S hp P
  have cp := clF_le (L := L) (W := D.w) l0 hp
  show ∃ (x : Int) (h' : AH), _ ∧ CRs h h' L le un ke la ma x (if (clF L le p D.w).1 = true then
      (if (sk L le (clF L le p D.w).2.1 : Int) < le then
        (if L.getD (sk L le (clF L le p D.w).2.1) 0 = 59 then rdF L le k (sk L le (clF L le p D.w).2.1) (tE L le (clF L le p D.w).2.1) (pfB D (clF L le p D.w).2.2.1 (clF L le p D.w).2.2.2.1 (clF L le p D.w).2.2.2.2)
        else ((sk L le (clF L le p D.w).2.1 : Int), k, pfB D (clF L le p D.w).2.2.1 (clF L le p D.w).2.2.2.1 (clF L le p D.w).2.2.2.2))
      else (-1, k, pfB D (clF L le p D.w).2.2.1 (clF L le p D.w).2.2.2.1 (clF L le p D.w).2.2.2.2))
    else (((clF L le p D.w).2.1 : Int), k, D))
  generalize clF L le p D.w = q at *
  obtain ⟨ok, pos, w, v1, v2⟩ := q
  have A1 : a_add x1 1 = x1 + 1 := add_id (by omega) (by omega)
  cases ok with
  | false =>
    obtain ⟨ys, S1⟩ := NO1 rfl
    have S1 : MF h1 L le un ke la ma pos ys := S1
    refine ⟨x1 + 1, h1, ?_, by omega, F1, fun z => absurd z (by show (pos : Int) ≠ -1; omega), fun _ => ⟨pos, ys, S1, rfl⟩⟩
    rw [k_Mo_clauses_44, if_neg (by decide), a1, Option.bind_some]
    show (rdf 7 h1 108 8).bind _ = _
    rw [S1.r8, Option.bind_some, if_neg (by omega), A1, k_Mo_clauses_74]
    exact m_cl0
  | true =>
    obtain ⟨S1, P1⟩ := OK1 rfl
    have S1 : MT h1 L le un ke la ma pos (row (pmB R w v1 v2)) := S1
    have P1 : Pr (pfB D w v1 v2) (pmB R w v1 v2) := P1
    have cp : (pos : Int) ≤ le := cp
    have t := tE_r (L := L) l0 cp
    have r6 : rdf 7 h1 108 6 = some (tkT L le (sk L le pos)) := by obtain ⟨_, S1⟩ := S1; exact hmf S1.1 rfl
    have tk := tk_34 (L := L) (le := le) (h := h1) (by obtain ⟨_, S1⟩ := S1; exact S1.2.1) t.2.2
    show ∃ (x : Int) (h' : AH), _ ∧ CRs h h' L le un ke la ma x (if (sk L le pos : Int) < le then (if L.getD (sk L le pos) 0 = 59 then rdF L le k (sk L le pos) (tE L le pos) (pfB D w v1 v2) else ((sk L le pos : Int), k, pfB D w v1 v2)) else (-1, k, pfB D w v1 v2))
    have HD : ∀ r : AR, ((if tkT L le (sk L le pos) = 4 then some (x1 + 1, h1) else (if tkT L le (sk L le pos) = 3 then (if x1 + 1 < 24 then (cal (d + 6) m_Mo_must [(107, 108), (0, 1)] h1).bind (fun q5 => (rdf 7 q5.2 108 8).bind (fun y6 => (if y6 < 0 then run (d + 7) m_Mo_clauses 44 [(107, 108), (0, x1 + 1), (0, 1)] [] q5.2 else run (d + 7) m_Mo_clauses 44 [(107, 108), (0, x1 + 1), (0, 0)] [] q5.2))) else (cal (d + 6) m_Mo_must [(107, 108), (0, 0)] h1).bind (fun q7 => (rdf 7 q7.2 108 8).bind (fun y8 => (if y8 < 0 then run (d + 7) m_Mo_clauses 44 [(107, 108), (0, x1 + 1), (0, 1)] [] q7.2 else run (d + 7) m_Mo_clauses 44 [(107, 108), (0, x1 + 1), (0, 0)] [] q7.2)))) else (cal (d + 6) m_Mo_must [(107, 108), (0, 0)] h1).bind (fun q9 => (rdf 7 q9.2 108 8).bind (fun y10 => (if y10 < 0 then run (d + 7) m_Mo_clauses 44 [(107, 108), (0, x1 + 1), (0, 1)] [] q9.2 else run (d + 7) m_Mo_clauses 44 [(107, 108), (0, x1 + 1), (0, 0)] [] q9.2))))) = r) → run (d + 7) m_Mo_clauses 44 [(107, 108), (0, x1), (0, 1)] [] h = r := by
      intro r hr
      rw [k_Mo_clauses_44, if_neg (by decide), a1, Option.bind_some]
      show (rdf 7 h1 108 8).bind _ = _
      rw [S1.r8, Option.bind_some, if_pos (by decide)]
      simp only [r6, Option.bind_some, A1, k_Mo_clauses_74, m_cl0]
      rw [← hr]
      simp only [m_cl0]
    have FAIL : tkT L le (sk L le pos) ≠ 4 → (tkT L le (sk L le pos) = 3 → ¬ x1 + 1 < 24) → ∀ (n : Nat) (D' : Bo), ∃ (x : Int) (h' : AH), run (d + 7) m_Mo_clauses 44 [(107, 108), (0, x1), (0, 1)] [] h = some (x, h') ∧ CRs h h' L le un ke la ma x ((sk L le pos : Int), n, D') := by
      intro z4 z3 n D'
      obtain ⟨h2, a2, S2, F2⟩ := m_must0 (d := d + 2) S1
      have FI : (cal (d + 6) m_Mo_must [(107, 108), (0, 0)] h1).bind (fun q9 => (rdf 7 q9.2 108 8).bind (fun y10 => (if y10 < 0 then run (d + 7) m_Mo_clauses 44 [(107, 108), (0, x1 + 1), (0, 1)] [] q9.2 else run (d + 7) m_Mo_clauses 44 [(107, 108), (0, x1 + 1), (0, 0)] [] q9.2))) = some (x1 + 1, h2) := by
        rw [a2, Option.bind_some]
        show (rdf 7 h2 108 8).bind _ = _
        rw [S2.r8, Option.bind_some, if_neg (by omega)]
        exact m_cl0
      refine ⟨x1 + 1, h2, HD _ ?_, by omega, F1.tr F2, fun z => absurd z (by show (sk L le pos : Int) ≠ -1; omega), fun _ => ⟨_, _, S2, rfl⟩⟩
      rw [if_neg z4]
      by_cases z : tkT L le (sk L le pos) = 3
      · rw [if_pos z, if_neg (z3 z)]; exact FI
      · rw [if_neg z]; exact FI
    by_cases z : (sk L le pos : Int) < le
    · rw [if_pos z]
      by_cases y : L.getD (sk L le pos) 0 = 59
      · rw [if_pos y]
        have z3 := tk.2.2 ⟨z, y⟩
        by_cases k0 : k = 0
        · subst k0
          exact FAIL (by omega) (fun _ => by omega) 0 _
        · obtain ⟨h2, a2, S2, F2⟩ := m_must1 (d := d + 2) S1 cp
          obtain ⟨x, h', e1, e2, e3, e4⟩ := K (by omega) (sk L le pos) (tE L le pos) h2 _ _ t.2.1 S2 P1
          refine ⟨x, h', HD _ ?_, e2, (F1.tr F2).tr e3, e4⟩
          rw [if_neg (by omega), if_pos z3, if_pos (by omega), a2, Option.bind_some]
          show (rdf 7 h2 108 8).bind _ = _
          rw [S2.r8, Option.bind_some, if_pos (by decide)]
          exact e1
      · rw [if_neg y]
        exact FAIL (fun q => tk.1.1 q z) (fun q => absurd (tk.2.1 q).2 y) k _
    · rw [if_neg z]
      have z4 := tk.1.2 z
      refine ⟨x1 + 1, h1, HD _ ?_, by omega, F1, fun _ => ⟨by show x1 + 1 = 24 - (k : Int); omega, pos, _, S1, P1⟩, fun q => absurd rfl q⟩
      rw [if_pos z4]
theorem m_cl44 : ∀ (k st p : Nat) (x1 : Int) (h : AH) (D R : Bo), x1 + ((k + 1 : Nat) : Int) = 24 → 0 ≤ x1 → (p : Int) ≤ le → MT h L le un ke la ma p (row R) → Pr D R → ∃ (x : Int) (h' : AH), run (d + 7) m_Mo_clauses 44 [(107, 108), (0, x1), (0, 1)] [] h = some (x, h') ∧ CRs h h' L le un ke la ma x (rdF L le (k + 1) st p D) := by
  intro k
  induction k with
  | zero => intro st p x1 h D R xk x0 hp S P; exact m_cls xk x0 hp S P (fun z => absurd z (by omega))
  | succ k ih =>
    intro st p x1 h D R xk x0 hp S P
    exact m_cls xk x0 hp S P (fun _ st p h2 D R hp S P => ih st p (x1 + 1) h2 D R (by omega) (by omega) hp S P)
theorem m_clauses {h : AH} {pl be to va br : Int} {D R : Bo} {ys : List Int} (S : MS h L le un ke la ma pl be to va br ys) (e0 : h[110]? = some (20, row R)) (P : Pr D R) : ∃ (x : Int) (h' : AH), cal (d + 7) m_Mo_clauses [(107, 108)] h = some (x, h') ∧ CRs h h' L le un ke la ma x (rdF L le 24 0 0 D) := by
  have H := S.2.1
  have lr : (row R).length = 25 := row_len P.2.1.1
  have cp := m_cl2 (d := d + 6) (v := (9, 0)) S.1 e0 (by omega) (gtl S.2.2.1) 25 0 ys (by have := S.2.2.2; omega) (by omega)
  rw [set_same S.2.2.1, cp_row (At.sf) lr S.2.2.2] at cp
  obtain ⟨S1, F1⟩ := S.ro (zs := row R) lr
  generalize h.set 112 (20, row R) = g at *
  have w4 := S1.2.1.w4 (pl := pl) (be := be) (to := to) (va := va) (br := br) (un := un) (ke := ke) (la := la) (ma := ma) 0
  have w8 := S1.2.1.w8 (pl := 0) (be := be) (to := to) (va := va) (br := br) (un := un) (ke := ke) (la := la) (ma := ma) (-1)
  rw [S1.same] at w4
  obtain ⟨S2, F2⟩ := S1.hs 0 be to va (-1)
  have lo := m_looksOn (d := d + 3) (be := be) (to := to) (va := va) (br := -1) (un := un) (ke := ke) (la := la) (ma := ma) S1.2.1 (p := 0) (by have := H.2.2.2.1; omega)
  have lo : cal (d + 6) m_Mo_looksOn [(107, 108)] (hS g le 0 be to va (-1) un ke la ma) = some (0, hS g le ((te L le (sk L le 0) : Nat) : Int) ((sk L le 0 : Nat) : Int) (tkT L le (sk L le 0)) (tkV L le (sk L le 0) va) (-1) un ke la ma) := lo
  obtain ⟨S3, F3⟩ := S1.hs ((te L le (sk L le 0) : Nat) : Int) ((sk L le 0 : Nat) : Int) (tkT L le (sk L le 0)) (tkV L le (sk L le 0) va) (-1)
  obtain ⟨x, h', e1, e2, e3, e4⟩ := m_cl44 (d := d) 23 0 0 0 _ D R (by omega) (by omega) (by have := H.2.2.2.1; omega) ⟨va, S3⟩ P
  refine ⟨x, h', ?_, e2, (F1.tr F3).tr e3, e4⟩
  rw [k_Mo_clauses]
  refine Eq.trans cp ?_
  rw [k_Mo_clauses_2, if_neg (by decide), w4, Option.bind_some, w8, Option.bind_some, lo, Option.bind_some]
  exact e1
end MC
