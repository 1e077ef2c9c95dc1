/-! Tokens taken, on the model's side. -/
def MB (j : Nat) : Prop := j = 108 ∨ j = 112
def MS (h : AH) (L : List Int) (le un ke la ma pl be to va br : Int) (ys : List Int) : Prop := h[108]? = some (7, hM le pl be to va br un ke la ma) ∧ LH h L le ∧ h[112]? = some (20, ys) ∧ ys.length = 25
def MT (h : AH) (L : List Int) (le un ke la ma : Int) (p : Nat) (ys : List Int) : Prop := ∃ v0 : Int, MS h L le un ke la ma ((tE L le p : Nat) : Int) ((sk L le p : Nat) : Int) (tkT L le (sk L le p)) (tkV L le (sk L le p) v0) (-1) ys
def MF (h : AH) (L : List Int) (le un ke la ma : Int) (b : Nat) (ys : List Int) : Prop := ∃ pl be to va : Int, MS h L le un ke la ma pl be to va (b : Int) ys
section MU
variable {h : AH} {L : List Int} {le un ke la ma pl be to va br : Int} {ys : List Int} {d p : Nat}
theorem MS.same (S : MS h L le un ke la ma pl be to va br ys) : hS h le pl be to va br un ke la ma = h := set_same S.1
theorem MS.hs (S : MS h L le un ke la ma pl be to va br ys) (pl' be' to' va' br' : Int) : MS (hS h le pl' be' to' va' br' un ke la ma) L le un ke la ma pl' be' to' va' br' ys ∧ Fr MB h (hS h le pl' be' to' va' br' un ke la ma) := by
  obtain ⟨a, t, b, c⟩ := S
  have F : Fr (fun j => j = 108) h (hS h le pl' be' to' va' br' un ke la ma) := fr_set rfl
  exact ⟨⟨getS (gtl a), ⟨by rw [F.len]; exact t.1, by rw [F.g 111 (by omega)]; exact t.2.1, t.2.2⟩, by rw [F.g 112 (by omega)]; exact b, c⟩, F.wd (fun j z => Or.inl z)⟩
theorem MS.ro (S : MS h L le un ke la ma pl be to va br ys) {zs : List Int} (lz : zs.length = 25) : MS (h.set 112 (20, zs)) L le un ke la ma pl be to va br zs ∧ Fr MB h (h.set 112 (20, zs)) := by
  obtain ⟨a, t, b, c⟩ := S
  have F : Fr (fun j => j = 112) h (h.set 112 (20, zs)) := fr_set rfl
  exact ⟨⟨by rw [F.g 108 (by omega)]; exact a, ⟨by rw [F.len]; exact t.1, by rw [F.g 111 (by omega)]; exact t.2.1, t.2.2⟩, getS (gtl b), lz⟩, F.wd (fun j z => Or.inr z)⟩
theorem m_must1 (S : MT h L le un ke la ma p ys) (hp : (p : Int) ≤ le) : ∃ h' : AH, cal (d + 4) m_Mo_must [(107, 108), (0, 1)] h = some (0, h') ∧ MT h' L le un ke la ma (tE L le p) ys ∧ Fr MB h h' := by
  obtain ⟨v0, S⟩ := S
  have H := S.2.1
  have t := tE_r (L := L) H.2.2.2.1 hp
  have r8 := H.r8 (pl := ((tE L le p : Nat) : Int)) (be := ((sk L le p : Nat) : Int)) (to := tkT L le (sk L le p)) (va := tkV L le (sk L le p) v0) (br := -1) (un := un) (ke := ke) (la := la) (ma := ma)
  have lo := m_looksOn (d := d) (be := ((sk L le p : Nat) : Int)) (to := tkT L le (sk L le p)) (va := tkV L le (sk L le p) v0) (br := -1) (un := un) (ke := ke) (la := la) (ma := ma) H t.2.1
  rw [S.same] at r8 lo
  obtain ⟨S1, F1⟩ := S.hs ((te L le (sk L le (tE L le p)) : Nat) : Int) ((sk L le (tE L le p) : Nat) : Int) (tkT L le (sk L le (tE L le p))) (tkV L le (sk L le (tE L le p)) (tkV L le (sk L le p) v0)) (-1)
  refine ⟨_, ?_, ⟨_, S1⟩, F1⟩
  rw [k_Mo_must]
  simp only [r8, lo, Option.bind_some]
  rw [if_pos (by decide), if_neg (by decide), if_pos (by decide)]
theorem m_must0 (S : MT h L le un ke la ma p ys) : ∃ h' : AH, cal (d + 4) m_Mo_must [(107, 108), (0, 0)] h = some (0, h') ∧ MF h' L le un ke la ma (sk L le p) ys ∧ Fr MB h h' := by
  obtain ⟨v0, S⟩ := S
  have H := S.2.1
  have r8 := H.r8 (pl := ((tE L le p : Nat) : Int)) (be := ((sk L le p : Nat) : Int)) (to := tkT L le (sk L le p)) (va := tkV L le (sk L le p) v0) (br := -1) (un := un) (ke := ke) (la := la) (ma := ma)
  have r5 := H.r5 (pl := ((tE L le p : Nat) : Int)) (be := ((sk L le p : Nat) : Int)) (to := tkT L le (sk L le p)) (va := tkV L le (sk L le p) v0) (br := -1) (un := un) (ke := ke) (la := la) (ma := ma)
  have w8 := H.w8 (pl := ((tE L le p : Nat) : Int)) (be := ((sk L le p : Nat) : Int)) (to := tkT L le (sk L le p)) (va := tkV L le (sk L le p) v0) (br := -1) (un := un) (ke := ke) (la := la) (ma := ma) ((sk L le p : Nat) : Int)
  have r9 := H.r8 (pl := ((tE L le p : Nat) : Int)) (be := ((sk L le p : Nat) : Int)) (to := tkT L le (sk L le p)) (va := tkV L le (sk L le p) v0) (br := ((sk L le p : Nat) : Int)) (un := un) (ke := ke) (la := la) (ma := ma)
  rw [S.same] at r8 r5 w8
  obtain ⟨S1, F1⟩ := S.hs ((tE L le p : Nat) : Int) ((sk L le p : Nat) : Int) (tkT L le (sk L le p)) (tkV L le (sk L le p) v0) ((sk L le p : Nat) : Int)
  refine ⟨_, ?_, ⟨_, _, _, _, S1⟩, F1⟩
  rw [k_Mo_must]
  simp only [r8, r5, w8, r9, Option.bind_some]
  rw [if_pos (by decide), if_true, if_neg (by omega)]
theorem m_mustF {b : Nat} {x : Int} (S : MF h L le un ke la ma b ys) : cal (d + 4) m_Mo_must [(107, 108), (0, x)] h = some (0, h) := by
  obtain ⟨pl, be, to, va, S⟩ := S
  have r8 : rdf 7 h 108 8 = some (b : Int) := hmf S.1 rfl
  rw [k_Mo_must]
  simp only [r8, Option.bind_some]
  rw [if_neg (by omega), if_neg (by omega)]
theorem m_num (S : MT h L le un ke la ma p ys) (hp : (p : Int) ≤ le) {lo hi : Int} (l0 : 0 ≤ lo) : (rdN L le (sk L le p) (tE L le p) lo hi ≠ -1 → ∃ h' : AH, cal (d + 5) m_Mo_number [(107, 108), (0, lo), (0, hi)] h = some (rdN L le (sk L le p) (tE L le p) lo hi, h') ∧ MT h' L le un ke la ma (tE L le p) ys ∧ Fr MB h h') ∧ (rdN L le (sk L le p) (tE L le p) lo hi = -1 → ∃ (u : Int) (h' : AH), cal (d + 5) m_Mo_number [(107, 108), (0, lo), (0, hi)] h = some (u, h') ∧ MF h' L le un ke la ma (sk L le p) ys ∧ Fr MB h h') := by
  obtain ⟨h1, a1, S1, F1⟩ := m_must1 (d := d) S hp
  obtain ⟨h2, a2, S2, F2⟩ := m_must0 (d := d) S
  obtain ⟨v0, S⟩ := S
  have r7 : rdf 7 h 108 7 = some (tkV L le (sk L le p) v0) := hmf S.1 rfl
  have r6 : rdf 7 h 108 6 = some (tkT L le (sk L le p)) := hmf S.1 rfl
  have mi := m_in (d := d + 3) (h := h) (tkV L le (sk L le p) v0) lo hi
  have IN : tkT L le (sk L le p) = 2 → rdN L le (sk L le p) (tE L le p) lo hi = if lo ≤ tkV L le (sk L le p) v0 ∧ tkV L le (sk L le p) v0 ≤ hi then tkV L le (sk L le p) v0 else -1 := by
    intro t2
    unfold tkT at t2
    by_cases a : 97 ≤ ch L le (sk L le p) ∧ ch L le (sk L le p) ≤ 122
    · rw [if_pos a] at t2; omega
    rw [if_neg a] at t2
    by_cases b : 48 ≤ ch L le (sk L le p) ∧ ch L le (sk L le p) ≤ 57
    rotate_left
    · rw [if_neg b] at t2
      by_cases c : ch L le (sk L le p) = 59
      · rw [if_pos c] at t2; omega
      · rw [if_neg c] at t2
        by_cases e : ch L le (sk L le p) < 0
        · rw [if_pos e] at t2; omega
        · rw [if_neg e] at t2; omega
    rw [if_pos b] at t2
    by_cases c : te L le (sk L le p) ≤ sk L le p + 2
    rotate_left
    · rw [if_neg c] at t2; omega
    unfold rdN tkV tE
    rw [if_pos b, if_pos c, if_neg a, if_pos b, show n2 (te L le (sk L le p) - sk L le p) = te L le (sk L le p) - sk L le p from if_pos (by omega)]
  have NO : tkT L le (sk L le p) ≠ 2 → rdN L le (sk L le p) (tE L le p) lo hi = -1 := by
    intro t2
    unfold rdN tE
    by_cases b : 48 ≤ ch L le (sk L le p) ∧ ch L le (sk L le p) ≤ 57
    · rw [if_pos b]
      by_cases c : te L le (sk L le p) ≤ sk L le p + 2
      · exfalso; apply t2; unfold tkT; rw [if_neg (by omega), if_pos b, if_pos c]
      · rw [if_neg c]
    · rw [if_neg b]
  refine ⟨fun z => ?_, fun z => ?_⟩
  · by_cases t2 : tkT L le (sk L le p) = 2
    rotate_left
    · exact absurd (NO t2) z
    have e := IN t2
    by_cases y : lo ≤ tkV L le (sk L le p) v0 ∧ tkV L le (sk L le p) v0 ≤ hi
    rotate_left
    · rw [if_neg y] at e; exact absurd e z
    rw [if_pos y] at e
    rw [bI_t y] at mi
    refine ⟨h1, ?_, S1, F1⟩
    rw [k_Mo_number, r7, Option.bind_some, r6, Option.bind_some, if_pos t2, e]
    show (cal (d + 4) m_Mo_in _ h).bind _ = _
    rw [mi, Option.bind_some]
    show (if (1 : Int) = 0 then _ else (cal (d + 4) m_Mo_must [(107, 108), (0, 1)] h).bind _) = _
    rw [if_neg (by decide), a1]; rfl
  · refine ⟨tkV L le (sk L le p) v0, h2, ?_, S2, F2⟩
    rw [k_Mo_number, r7, Option.bind_some, r6, Option.bind_some]
    by_cases t2 : tkT L le (sk L le p) = 2
    · have e := IN t2
      by_cases y : lo ≤ tkV L le (sk L le p) v0 ∧ tkV L le (sk L le p) v0 ≤ hi
      · rw [if_pos y, z] at e; omega
      rw [bI_f y] at mi
      rw [if_pos t2]
      show (cal (d + 4) m_Mo_in _ h).bind _ = _
      rw [mi, Option.bind_some]
      show (if (0 : Int) = 0 then (cal (d + 4) m_Mo_must [(107, 108), (0, 0)] h).bind _ else _) = _
      rw [if_pos rfl, a2]; rfl
    · rw [if_neg t2]
      show (cal (d + 4) m_Mo_must [(107, 108), (0, 0)] h).bind _ = _
      rw [a2]; rfl
theorem m_numF {b : Nat} {lo hi : Int} (S : MF h L le un ke la ma b ys) : ∃ u : Int, cal (d + 5) m_Mo_number [(107, 108), (0, lo), (0, hi)] h = some (u, h) := by
  have mm : ∀ x : Int, cal (d + 4) m_Mo_must [(107, 108), (0, x)] h = some (0, h) := fun x => m_mustF S
  obtain ⟨pl, be, to, va, S⟩ := S
  have r7 : rdf 7 h 108 7 = some va := hmf S.1 rfl
  have r6 : rdf 7 h 108 6 = some to := hmf S.1 rfl
  have mi := m_in (d := d + 3) (h := h) va lo hi
  refine ⟨va, ?_⟩
  rw [k_Mo_number, r7, Option.bind_some, r6, Option.bind_some]
  simp only [mi, mm, Option.bind_some, ite_self]
theorem cwd_not {b e : Nat} (he : (e : Int) ≤ le) (a : ¬ (97 ≤ ch L le b ∧ ch L le b ≤ 122)) : cwd L b e = -1 := by
  have no : ∀ (c : Int) (cs : List Int), 97 ≤ c → c ≤ 122 → ¬ (isW L b e (c :: cs) = true) := by
    intro c cs c0 c1 q
    unfold isW at q
    rw [Bool.and_eq_true, decide_eq_true_eq] at q
    obtain ⟨q1, q2⟩ := q
    rw [List.length_cons] at q1
    have q2 : (decide (L.getD b 0 = c) && eqW L (b + 1) cs) = true := q2
    rw [Bool.and_eq_true, decide_eq_true_eq] at q2
    apply a
    rw [ch_in (by omega), q2.1]
    exact ⟨c0, c1⟩
  unfold cwd
  rw [if_neg (no _ _ (by decide) (by decide)), if_neg (no _ _ (by decide) (by decide)), if_neg (no _ _ (by decide) (by decide)), if_neg (no _ _ (by decide) (by decide)), if_neg (no _ _ (by decide) (by decide)), if_neg (no _ _ (by decide) (by decide)), if_neg (no _ _ (by decide) (by decide)), if_neg (no _ _ (by decide) (by decide)), if_neg (no _ _ (by decide) (by decide))]
/-- the word's number for the model -/
def mcd (w : Int) : Int := if w = -1 then 0 else if w ≤ 4 then w + 5 else w - 4
theorem m_code (S : MT h L le un ke la ma p ys) (hp : (p : Int) ≤ le) : ∀ r : AR, run (d + 6) m_Mo_reads 27 [(107, 108), (0, mcd (cwd L (sk L le p) (tE L le p))), (9, 0), (9, 0)] [(0, if cwd L (sk L le p) (tE L le p) = -1 then 0 else 1), (107, 108)] h = r → cal (d + 6) m_Mo_reads [(107, 108)] h = r := by
  obtain ⟨v0, S⟩ := S
  have l0 := S.2.1.2.2.2.1
  have t := tE_r (L := L) l0 hp
  have r7 : rdf 7 h 108 7 = some (tkV L le (sk L le p) v0) := hmf S.1 rfl
  have r6 : rdf 7 h 108 6 = some (tkT L le (sk L le p)) := hmf S.1 rfl
  intro r hr
  rw [k_Mo_reads, r6, Option.bind_some]
  have cr := cwd_r (L := L) (sk L le p) (tE L le p)
  by_cases a : 97 ≤ ch L le (sk L le p) ∧ ch L le (sk L le p) ≤ 122
  · have t1 : tkT L le (sk L le p) = 1 := if_pos a
    have tv : tkV L le (sk L le p) v0 = mwV (vV L (sk L le p) (tE L le p)) := if_pos a
    have bl : (sk L le p : Int) < le := by
      by_cases y : (sk L le p : Int) < le
      · exact y
      · rw [ch_out (by omega)] at a; omega
    have rr := rn_r (L := L) (le := le) (lo := 97) (hi := 122) (by omega) (le.toNat - (sk L le p + 1)) (sk L le p + 1) (by omega)
    have et : tE L le p = rn L le 97 122 (sk L le p + 1) := by unfold tE te; rw [if_pos a]
    have cv : cwd L (sk L le p) (tE L le p) = cwN (vV L (sk L le p) (tE L le p)) := cwd_V (by omega) (fun j hj => by
      rw [← ch_in (L := L) (le := le) (by omega)]
      by_cases j0 : j = 0
      · rw [j0]; exact a
      · exact rr.2.2.2 _ (by omega) (by omega))
    have mc := mw_cw (vV L (sk L le p) (tE L le p))
    rw [← cv, ← tv] at mc
    have mc : tkV L le (sk L le p) v0 = mcd (cwd L (sk L le p) (tE L le p)) := mc
    rw [if_pos t1, r7, Option.bind_some, mc]
    generalize cwd L (sk L le p) (tE L le p) = w at hr cr
    unfold mcd at hr ⊢
    by_cases z : w = -1
    · rw [if_pos z, if_pos z] at hr
      rw [if_pos z, if_neg (by decide)]
      exact hr
    · rw [if_neg z, if_neg z] at hr
      rw [if_neg z]
      by_cases y : w ≤ 4
      · rw [if_pos y] at hr ⊢
        rw [if_pos (by omega)]
        exact hr
      · rw [if_neg y] at hr ⊢
        rw [if_pos (by omega)]
        exact hr
  · have t1 : tkT L le (sk L le p) ≠ 1 := by
      unfold tkT
      rw [if_neg a]
      by_cases b : 48 ≤ ch L le (sk L le p) ∧ ch L le (sk L le p) ≤ 57
      · rw [if_pos b]; split <;> omega
      · rw [if_neg b]
        by_cases c : ch L le (sk L le p) = 59
        · rw [if_pos c]; omega
        · rw [if_neg c]; split <;> omega
    have w1 : cwd L (sk L le p) (tE L le p) = -1 := cwd_not t.2.1 a
    rw [if_neg t1]
    rw [w1] at hr
    exact hr
end MU
