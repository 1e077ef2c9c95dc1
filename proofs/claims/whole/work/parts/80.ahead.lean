/-! The model looks ahead: its rows. -/
def Wt : Type := Int × List Int × List Int × List Int × List Int × List Int × List Int
def Wt.la (s : Wt) : Int := s.1
def Wt.ys (s : Wt) : List Int := s.2.1
def Wt.R (s : Wt) : List Int := s.2.2.1
def Wt.ho (s : Wt) : List Int := s.2.2.2.1
def Wt.ls (s : Wt) : List Int := s.2.2.2.2.1
def Wt.il (s : Wt) : List Int := s.2.2.2.2.2.1
def Wt.li (s : Wt) : List Int := s.2.2.2.2.2.2
def mkW (la : Int) (ys R ho ls il li : List Int) : Wt := (la, ys, R, ho, ls, il, li)
def Hd : Type := Int × Int × Int × Int × Int × Int × Int × Int × Int
def Hd.row (q : Hd) (la : Int) : List Int := hM q.1 q.2.1 q.2.2.1 q.2.2.2.1 q.2.2.2.2.1 q.2.2.2.2.2.1 q.2.2.2.2.2.2.1 q.2.2.2.2.2.2.2.1 la q.2.2.2.2.2.2.2.2
def WS (g : AH) (q : Hd) (s : Wt) : Prop := g[108]? = some (7, q.row s.la) ∧ g[109]? = some (20, s.ys) ∧ g[116]? = some (20, s.R) ∧ g[117]? = some (20, s.ho) ∧ g[118]? = some (20, s.ls) ∧ g[119]? = some (21, s.il) ∧ g[120]? = some (20, s.li) ∧ s.ys.length = 25 ∧ s.R.length = 175 ∧ s.ho.length = 6 ∧ s.ls.length = 6 ∧ s.il.length = 6 ∧ s.li.length = 36
def W0 (j : Nat) : Prop := j = 108 ∨ j = 109 ∨ (116 ≤ j ∧ j < 121)
section WSS
variable {g : AH} {q : Hd} {s : Wt} {xs : List Int}
theorem WS.h (W : WS g q s) : g[108]? = some (7, q.row s.la) := W.1
theorem WS.y (W : WS g q s) : g[109]? = some (20, s.ys) := W.2.1
theorem WS.r (W : WS g q s) : g[116]? = some (20, s.R) := W.2.2.1
theorem WS.o (W : WS g q s) : g[117]? = some (20, s.ho) := W.2.2.2.1
theorem WS.l (W : WS g q s) : g[118]? = some (20, s.ls) := W.2.2.2.2.1
theorem WS.i (W : WS g q s) : g[119]? = some (21, s.il) := W.2.2.2.2.2.1
theorem WS.n (W : WS g q s) : g[120]? = some (20, s.li) := W.2.2.2.2.2.2.1
theorem WS.ly (W : WS g q s) : s.ys.length = 25 := W.2.2.2.2.2.2.2.1
theorem WS.lr (W : WS g q s) : s.R.length = 175 := W.2.2.2.2.2.2.2.2.1
theorem WS.lo (W : WS g q s) : s.ho.length = 6 := W.2.2.2.2.2.2.2.2.2.1
theorem WS.ll (W : WS g q s) : s.ls.length = 6 := W.2.2.2.2.2.2.2.2.2.2.1
theorem WS.lI (W : WS g q s) : s.il.length = 6 := W.2.2.2.2.2.2.2.2.2.2.2.1
theorem WS.ln (W : WS g q s) : s.li.length = 36 := W.2.2.2.2.2.2.2.2.2.2.2.2
theorem WS.s9 (W : WS g q s) (l : xs.length = 25) : WS (g.set 109 (20, xs)) q (mkW s.la xs s.R s.ho s.ls s.il s.li) ∧ Fr W0 g (g.set 109 (20, xs)) :=
  ⟨⟨by rw [getN (by omega)]; exact W.h, getS (gtl W.y), by rw [getN (by omega)]; exact W.r, by rw [getN (by omega)]; exact W.o, by rw [getN (by omega)]; exact W.l, by rw [getN (by omega)]; exact W.i, by rw [getN (by omega)]; exact W.n, l, W.lr, W.lo, W.ll, W.lI, W.ln⟩, fr_set (by unfold W0; omega)⟩
theorem WS.s16 (W : WS g q s) (l : xs.length = 175) : WS (g.set 116 (20, xs)) q (mkW s.la s.ys xs s.ho s.ls s.il s.li) ∧ Fr W0 g (g.set 116 (20, xs)) :=
  ⟨⟨by rw [getN (by omega)]; exact W.h, by rw [getN (by omega)]; exact W.y, getS (gtl W.r), by rw [getN (by omega)]; exact W.o, by rw [getN (by omega)]; exact W.l, by rw [getN (by omega)]; exact W.i, by rw [getN (by omega)]; exact W.n, W.ly, l, W.lo, W.ll, W.lI, W.ln⟩, fr_set (by unfold W0; omega)⟩
theorem WS.s17 (W : WS g q s) (l : xs.length = 6) : WS (g.set 117 (20, xs)) q (mkW s.la s.ys s.R xs s.ls s.il s.li) ∧ Fr W0 g (g.set 117 (20, xs)) :=
  ⟨⟨by rw [getN (by omega)]; exact W.h, by rw [getN (by omega)]; exact W.y, by rw [getN (by omega)]; exact W.r, getS (gtl W.o), by rw [getN (by omega)]; exact W.l, by rw [getN (by omega)]; exact W.i, by rw [getN (by omega)]; exact W.n, W.ly, W.lr, l, W.ll, W.lI, W.ln⟩, fr_set (by unfold W0; omega)⟩
theorem WS.s18 (W : WS g q s) (l : xs.length = 6) : WS (g.set 118 (20, xs)) q (mkW s.la s.ys s.R s.ho xs s.il s.li) ∧ Fr W0 g (g.set 118 (20, xs)) :=
  ⟨⟨by rw [getN (by omega)]; exact W.h, by rw [getN (by omega)]; exact W.y, by rw [getN (by omega)]; exact W.r, by rw [getN (by omega)]; exact W.o, getS (gtl W.l), by rw [getN (by omega)]; exact W.i, by rw [getN (by omega)]; exact W.n, W.ly, W.lr, W.lo, l, W.lI, W.ln⟩, fr_set (by unfold W0; omega)⟩
theorem WS.s19 (W : WS g q s) (l : xs.length = 6) : WS (g.set 119 (21, xs)) q (mkW s.la s.ys s.R s.ho s.ls xs s.li) ∧ Fr W0 g (g.set 119 (21, xs)) :=
  ⟨⟨by rw [getN (by omega)]; exact W.h, by rw [getN (by omega)]; exact W.y, by rw [getN (by omega)]; exact W.r, by rw [getN (by omega)]; exact W.o, by rw [getN (by omega)]; exact W.l, getS (gtl W.i), by rw [getN (by omega)]; exact W.n, W.ly, W.lr, W.lo, W.ll, l, W.ln⟩, fr_set (by unfold W0; omega)⟩
theorem WS.s20 (W : WS g q s) (l : xs.length = 36) : WS (g.set 120 (20, xs)) q (mkW s.la s.ys s.R s.ho s.ls s.il xs) ∧ Fr W0 g (g.set 120 (20, xs)) :=
  ⟨⟨by rw [getN (by omega)]; exact W.h, by rw [getN (by omega)]; exact W.y, by rw [getN (by omega)]; exact W.r, by rw [getN (by omega)]; exact W.o, by rw [getN (by omega)]; exact W.l, by rw [getN (by omega)]; exact W.i, getS (gtl W.n), W.ly, W.lr, W.lo, W.ll, W.lI, l⟩, fr_set (by unfold W0; omega)⟩
theorem WS.s8 (W : WS g q s) (v : Int) : WS (g.set 108 (7, q.row v)) q (mkW v s.ys s.R s.ho s.ls s.il s.li) ∧ Fr W0 g (g.set 108 (7, q.row v)) :=
  ⟨⟨getS (gtl W.h), by rw [getN (by omega)]; exact W.y, by rw [getN (by omega)]; exact W.r, by rw [getN (by omega)]; exact W.o, by rw [getN (by omega)]; exact W.l, by rw [getN (by omega)]; exact W.i, by rw [getN (by omega)]; exact W.n, W.ly, W.lr, W.lo, W.ll, W.lI, W.ln⟩, fr_set (by unfold W0; omega)⟩
end WSS
/-- the levels below t are as they were -/
def Lo (t : Nat) (s s' : Wt) : Prop := (∀ j, j < 25 * t → s'.R[j]? = s.R[j]?) ∧ (∀ j, j < t → s'.ho[j]? = s.ho[j]? ∧ s'.ls[j]? = s.ls[j]? ∧ s'.il[j]? = s.il[j]?) ∧ (∀ j, j < 6 * t → s'.li[j]? = s.li[j]?)
theorem Lo.rf {t : Nat} {s : Wt} : Lo t s s := ⟨fun _ _ => rfl, fun _ _ => ⟨rfl, rfl, rfl⟩, fun _ _ => rfl⟩
theorem Lo.tr {t : Nat} {s s' s'' : Wt} (a : Lo t s s') (b : Lo t s' s'') : Lo t s s'' := ⟨fun j h => (b.1 j h).trans (a.1 j h), fun j h => ⟨(b.2.1 j h).1.trans (a.2.1 j h).1, (b.2.1 j h).2.1.trans (a.2.1 j h).2.1, (b.2.1 j h).2.2.trans (a.2.1 j h).2.2⟩, fun j h => (b.2.2 j h).trans (a.2.2 j h)⟩
theorem Lo.dn {t u : Nat} {s s' : Wt} (a : Lo t s s') (h : u ≤ t) : Lo u s s' := ⟨fun j z => a.1 j (by omega), fun j z => a.2.1 j (by omega), fun j z => a.2.2 j (by omega)⟩
def bgF (t : Nat) : Nat → Nat → List Int → List Int
  | 0, _, li => li
  | n + 1, k, li => bgF t n (k + 1) (li.set (6 * t + k) (-1))
theorem bgF_len {t : Nat} : ∀ (n k : Nat) (li : List Int), (bgF t n k li).length = li.length := by
  intro n
  induction n with
  | zero => intro k li; rfl
  | succ n ih => intro k li; show (bgF t n _ _).length = _; rw [ih, List.length_set]
theorem bgF_out {t : Nat} : ∀ (n k : Nat) (li : List Int) (j : Nat), j < 6 * t + k → (bgF t n k li)[j]? = li[j]? := by
  intro n
  induction n with
  | zero => intro k li j _; rfl
  | succ n ih => intro k li j h; show (bgF t n _ _)[j]? = _; rw [ih _ _ _ (by omega), List.getElem?_set_ne (by omega)]
theorem bgF_in {t : Nat} : ∀ (n k : Nat) (li : List Int) (j : Nat), k ≤ j → j < k + n → 6 * t + k + n ≤ li.length → (bgF t n k li)[6 * t + j]? = some (-1) := by
  intro n
  induction n with
  | zero => intro k li j h1 h2; omega
  | succ n ih =>
    intro k li j h1 h2 h3
    show (bgF t n _ _)[6 * t + j]? = _
    by_cases e : j = k
    · subst e; rw [bgF_out _ _ _ _ (by omega), List.getElem?_set_self (by omega)]
    · exact ih _ _ _ (by omega) (by omega) (by rw [List.length_set]; omega)
def enF (t : Nat) : Nat → Nat → List Int → List Int
  | 0, _, li => li
  | n + 1, k, li => enF t n (k + 1) (li.set (6 * t + k) (li.getD (6 * (t + 1) + k) 0))
theorem enF_len {t : Nat} : ∀ (n k : Nat) (li : List Int), (enF t n k li).length = li.length := by
  intro n
  induction n with
  | zero => intro k li; rfl
  | succ n ih => intro k li; show (enF t n _ _).length = _; rw [ih, List.length_set]
theorem enF_out {t : Nat} : ∀ (n k : Nat) (li : List Int) (j : Nat), (j < 6 * t + k ∨ 6 * t + k + n ≤ j) → (enF t n k li)[j]? = li[j]? := by
  intro n
  induction n with
  | zero => intro k li j _; rfl
  | succ n ih => intro k li j h; show (enF t n _ _)[j]? = _; rw [ih _ _ _ (by omega), List.getElem?_set_ne (by omega)]
theorem enF_in {t : Nat} : ∀ (n k : Nat) (li : List Int) (j : Nat), k ≤ j → j < k + n → k + n ≤ 6 → 6 * (t + 1) + k + n ≤ li.length → (enF t n k li)[6 * t + j]? = li[6 * (t + 1) + j]? := by
  intro n
  induction n with
  | zero => intro k li j h1 h2; omega
  | succ n ih =>
    intro k li j h1 h2 h3 h4
    show (enF t n _ _)[6 * t + j]? = _
    by_cases e : j = k
    · subst e
      rw [enF_out _ _ _ _ (by omega), List.getElem?_set_self (by omega)]
      exact (getD_some (by omega)).symm
    · rw [ih _ _ _ (by omega) (by omega) (by omega) (by rw [List.length_set]; omega), List.getElem?_set_ne (by omega)]
/-- a level just begun -/
def Beg (t : Nat) (X : Bo) (s : Wt) : Prop := At s.R (25 * t) (row X) ∧ s.ho[t]? = some 0 ∧ s.il[t]? = some 0 ∧ ∀ k, t ≤ k → k < 6 → s.li[6 * t + k]? = some (-1)
section AHEAD
variable {d : Nat} {q : Hd}
theorem hq {g : AH} {s : Wt} (W : WS g q s) {k : Nat} {v : Int} (e : (q.row s.la)[k]? = some v) (z : 0 ≤ v) : rdr 7 g 108 k = some v := hmr W.h e z
theorem m_bg47 {g : AH} {s : Wt} (W : WS g q s) {t : Nat} (t5 : t < 6) : ∀ (n k : Nat) (li : List Int), k + n = 6 → li.length = 36 → run (d + 1) m_Mo_begins 47 [(107, 108), (0, (t : Int)), (0, (k : Int))] [] (g.set 120 (20, li)) = some (0, g.set 120 (20, bgF t n k li)) := by
  intro n
  induction n with
  | zero => intro k li e _; rw [k_Mo_begins_47, if_neg (by omega)]; rfl
  | succ n ih =>
    intro k li e l
    obtain ⟨W1, -⟩ := W.s20 l
    have r1 : rdr 7 (g.set 120 (20, li)) 108 19 = some 120 := hq W1 rfl (by omega)
    have w1 : wra 20 (g.set 120 (20, li)) 120 (6 * (t : Int) + (k : Int)) (-1) = some ((g.set 120 (20, li)).set 120 (20, li.set (6 * (t : Int) + (k : Int)).toNat (-1))) := wra_i (n := 120) W1.n (by omega) (by show (6 * (t : Int) + (k : Int)).toNat < li.length; omega) _
    rw [k_Mo_begins_47, if_pos (by omega), r1, Option.bind_some, mul_id (by omega) (by omega), add_id (x := 6 * (t : Int)) (by omega) (by omega), w1, Option.bind_some, List.set_set, add_id (by omega) (by omega), show (6 * (t : Int) + (k : Int)).toNat = 6 * t + k by omega]
    exact ih (k + 1) _ (by omega) (by rw [List.length_set]; exact l)
theorem m_begins {g : AH} {s : Wt} {X : Bo} (W : WS g q s) (ey : s.ys = row X) {t : Nat} (t5 : t < 6) : ∃ (g' : AH) (s' : Wt), cal (d + 1) m_Mo_begins [(107, 108), (0, (t : Int))] g = some (0, g') ∧ WS g' q s' ∧ s'.ys = row X ∧ Beg t X s' ∧ Lo t s s' ∧ Fr W0 g g' := by
  have lx : (row X).length = 25 := by rw [← ey]; exact W.ly
  have z := m_bg2 (d := d) (t := (t : Int)) (by omega) (by omega) W.h W.y (by rw [W.ly]; omega) (gtl W.r) 25 0 s.R (by rw [W.lr]; omega) (by omega)
  rw [set_same W.r, Int.toNat_natCast] at z
  have lR : (cpN s.ys 0 (25 * t) 25 0 s.R).length = 175 := by rw [cpN_len]; exact W.lr
  have aR : At (cpN s.ys 0 (25 * t) 25 0 s.R) (25 * t) (row X) := by rw [ey]; exact At.sf.cp lx (by rw [W.lr]; omega)
  have bR : ∀ j, j < 25 * t → (cpN s.ys 0 (25 * t) 25 0 s.R)[j]? = s.R[j]? := fun j h => cpN_out _ _ _ _ (by omega)
  generalize cpN s.ys 0 (25 * t) 25 0 s.R = R' at z lR aR bR
  obtain ⟨W1, T1⟩ := W.s16 lR
  generalize g.set 116 (20, R') = g1 at z W1 T1
  obtain ⟨W2, T2⟩ := W1.s17 (xs := s.ho.set t 0) (by rw [List.length_set]; exact W.lo)
  have r1 : rdr 7 g1 108 16 = some 117 := hq W1 rfl (by omega)
  have w1 : wra 20 g1 117 (t : Int) 0 = some (g1.set 117 (20, s.ho.set (t : Int).toNat 0)) := wra_i (n := 117) W1.o (by omega) (by show (t : Int).toNat < s.ho.length; rw [W.lo]; omega) _
  rw [Int.toNat_natCast] at w1
  generalize g1.set 117 (20, s.ho.set t 0) = g2 at w1 W2 T2
  obtain ⟨W3, T3⟩ := W2.s19 (xs := s.il.set t 0) (by rw [List.length_set]; exact W.lI)
  have r2 : rdr 7 g2 108 18 = some 119 := hq W2 rfl (by omega)
  have w2 : wrab 21 g2 119 (t : Int) 0 = some (g2.set 119 (21, s.il.set (t : Int).toNat 0)) := wrab_i (n := 119) W2.i (by omega) (by show (t : Int).toNat < s.il.length; rw [W.lI]; omega) (Or.inl rfl)
  rw [Int.toNat_natCast] at w2
  generalize g2.set 119 (21, s.il.set t 0) = g3 at w2 W3 T3
  have z3 := m_bg47 (d := d) W3 t5 (6 - t) t s.li (by omega) W.ln
  rw [set_same (show g3[120]? = some (20, s.li) from W3.n)] at z3
  obtain ⟨W4, T4⟩ := W3.s20 (xs := bgF t (6 - t) t s.li) (by rw [bgF_len]; exact W.ln)
  have o := W.lo; have i := W.lI; have n := W.ln
  refine ⟨_, _, ?_, W4, ey, ⟨aR, ?_, ?_, fun k k0 k1 => ?_⟩, ⟨bR, fun j hj => ⟨?_, rfl, ?_⟩, fun j hj => ?_⟩, ((T1.tr T2).tr T3).tr T4⟩
  · rw [k_Mo_begins]
    refine z.trans ?_
    rw [k_Mo_begins_2, if_neg (by omega)]
    simp only [r1, w1, r2, w2, Option.bind_some]
    exact z3
  · show (s.ho.set t 0)[t]? = _
    exact List.getElem?_set_self (by omega)
  · show (s.il.set t 0)[t]? = _
    exact List.getElem?_set_self (by omega)
  · show (bgF t (6 - t) t s.li)[6 * t + k]? = _
    exact bgF_in _ _ _ _ (by omega) (by omega) (by omega)
  · show (s.ho.set t 0)[j]? = _
    exact List.getElem?_set_ne (by omega)
  · show (s.il.set t 0)[j]? = _
    exact List.getElem?_set_ne (by omega)
  · show (bgF t (6 - t) t s.li)[j]? = _
    exact bgF_out _ _ _ _ (by omega)
/-- a level at work: c houses through, of those that go the best so far -/
def Lev (t : Nat) (X : Bo) (c m ms : Int) (l : Nat) (s : Wt) : Prop := At s.R (25 * t) (row X) ∧ s.ho[t]? = some c ∧ s.il[t]? = some (if ms = -1 then 0 else 1) ∧ (ms ≠ -1 → s.ls[t]? = some (if X.t = 0 then m else -m)) ∧ (∀ k, t ≤ k → k < 6 → s.li[6 * t + k]? = some (if ms = -1 then -1 else if k = t then ms else lin l (sow X ms) (k - t - 1))) ∧ (ms = -1 → m = -1000000)
theorem Beg.lev {t : Nat} {X : Bo} {s : Wt} {l : Nat} (b : Beg t X s) : Lev t X 0 (-1000000) (-1) l s := ⟨b.1, b.2.1, b.2.2.1, fun z => absurd rfl z, fun k a c => b.2.2.2 k a c, fun _ => rfl⟩
theorem m_en104 {g : AH} {s : Wt} (W : WS g q s) {t : Nat} (t5 : t < 5) {L x3 : Int} : ∀ (n k : Nat) (li : List Int), k + n = 6 → li.length = 36 → run (d + 1) m_Mo_ends 104 [(107, 108), (0, (t : Int)), (0, L), (0, x3), (0, 1), (0, (k : Int))] [] (g.set 120 (20, li)) = run (d + 1) m_Mo_ends 104 [(107, 108), (0, (t : Int)), (0, L), (0, x3), (0, 1), (0, 6)] [] (g.set 120 (20, enF t n k li)) := by
  intro n
  induction n with
  | zero => intro k li e _; rw [show k = 6 by omega]; rfl
  | succ n ih =>
    intro k li e l
    obtain ⟨W1, -⟩ := W.s20 l
    have r1 : rdr 7 (g.set 120 (20, li)) 108 19 = some 120 := hq W1 rfl (by omega)
    have r2 : rda 20 (g.set 120 (20, li)) 120 (6 * ((t : Int) + 1) + (k : Int)) = some (li.getD (6 * ((t : Int) + 1) + (k : Int)).toNat 0) := rdA (n := 120) W1.n (by omega) (by show (6 * ((t : Int) + 1) + (k : Int)).toNat < li.length; omega)
    have w1 : ∀ v : Int, wra 20 (g.set 120 (20, li)) 120 (6 * (t : Int) + (k : Int)) v = some ((g.set 120 (20, li)).set 120 (20, li.set (6 * (t : Int) + (k : Int)).toNat v)) := fun v => wra_i (n := 120) W1.n (by omega) (by show (6 * (t : Int) + (k : Int)).toNat < li.length; omega) _
    rw [k_Mo_ends_104, if_pos (by omega), r1, Option.bind_some, Option.bind_some, add_id (x := (t : Int)) (by omega) (by omega), mul_id (x := 6) (y := (t : Int) + 1) (by omega) (by omega), add_id (x := 6 * ((t : Int) + 1)) (by omega) (by omega), r2, Option.bind_some, mul_id (by omega) (by omega), add_id (x := 6 * (t : Int)) (by omega) (by omega), w1, Option.bind_some, List.set_set, add_id (by omega) (by omega), show (6 * (t : Int) + (k : Int)).toNat = 6 * t + k by omega, show (6 * ((t : Int) + 1) + (k : Int)).toNat = 6 * (t + 1) + k by omega]
    exact ih (k + 1) _ (by omega) (by rw [List.length_set]; exact l)
theorem m_ends {g : AH} {s : Wt} {X : Bo} {c m ms L : Int} {l t : Nat} (W : WS g q s) (OX : BoOK X) (t5 : t < 5) (V : Lev t X c m ms l s) (c0 : 0 ≤ c) (c10 : c < 10) (hv : -1000000 < (if X.t = 0 then L else -L)) (hn : ∀ k, t + 1 ≤ k → k < 6 → s.li[6 * (t + 1) + k]? = some (lin l (sow X c) (k - t - 1))) : ∃ (g' : AH) (s' : Wt), cal (d + 1) m_Mo_ends [(107, 108), (0, (t : Int)), (0, L)] g = some (0, g') ∧ WS g' q s' ∧ Lev t X (c + 1) (if m < (if X.t = 0 then L else -L) then (if X.t = 0 then L else -L) else m) (if m < (if X.t = 0 then L else -L) then c else ms) l s' ∧ Lo t s s' ∧ Fr W0 g g' := by
  obtain ⟨v1, v2, v3, v4, v5, v6⟩ := V
  have o := W.lo; have i := W.lI; have nn := W.ln; have ll := W.ll; have lr := W.lr
  have t01 := OX.t01
  have rR : rdr 7 g 108 15 = some 116 := hq W rfl (by omega)
  have rT : rda 20 g 116 (25 * (t : Int) + 1) = some X.t := by
    refine (rda_i (n := 116) W.r (by omega)).trans ?_
    rw [show (25 * (t : Int) + 1).toNat = 25 * t + 1 by omega, v1 1 (by omega)]
    rfl
  have rI : rdr 7 g 108 18 = some 119 := hq W rfl (by omega)
  have rIl : rda 21 g 119 (t : Int) = some (if ms = -1 then 0 else 1) := (rda_n (n := 119) W.i t).trans v3
  have rL : rdr 7 g 108 17 = some 118 := hq W rfl (by omega)
  -- not better: only the count goes on
  have no : run (d + 1) m_Mo_ends 60 [(107, 108), (0, (t : Int)), (0, L), (0, if X.t = 0 then 1 else 0), (9, 0), (9, 0)] [] g = some (0, g.set 117 (20, s.ho.set t (c + 1))) := by
    have r1 : rdr 7 g 108 16 = some 117 := hq W rfl (by omega)
    have r2 : rda 20 g 117 (t : Int) = some c := (rda_n (n := 117) W.o t).trans v2
    have w1 : wra 20 g 117 (t : Int) (c + 1) = some (g.set 117 (20, s.ho.set (t : Int).toNat (c + 1))) := wra_i (n := 117) W.o (by omega) (by rw [Int.toNat_natCast]; omega) _
    rw [Int.toNat_natCast] at w1
    rw [k_Mo_ends_60, r1, Option.bind_some, r2, Option.bind_some, add_id (by omega) (by omega), w1]
    rfl
  have yes : ∃ (g' : AH) (s' : Wt), run (d + 1) m_Mo_ends 56 [(107, 108), (0, (t : Int)), (0, L), (0, if X.t = 0 then 1 else 0), (9, 0), (9, 0)] [] g = some (0, g') ∧ WS g' q s' ∧ s'.R = s.R ∧ s'.ho = s.ho.set t (c + 1) ∧ s'.ls = s.ls.set t L ∧ s'.il = s.il.set t 1 ∧ s'.li = enF t (5 - t) (t + 1) (s.li.set (6 * t + t) c) ∧ Fr W0 g g' := by
    obtain ⟨W1, T1⟩ := W.s18 (xs := s.ls.set t L) (by rw [List.length_set]; exact W.ll)
    have w1 : wra 20 g 118 (t : Int) L = some (g.set 118 (20, s.ls.set (t : Int).toNat L)) := wra_i (n := 118) W.l (by omega) (by rw [Int.toNat_natCast]; omega) _
    rw [Int.toNat_natCast] at w1
    generalize g.set 118 (20, s.ls.set t L) = g1 at w1 W1 T1
    obtain ⟨W2, T2⟩ := W1.s19 (xs := s.il.set t 1) (by rw [List.length_set]; exact W.lI)
    have r2 : rdr 7 g1 108 18 = some 119 := hq W1 rfl (by omega)
    have w2 : wrab 21 g1 119 (t : Int) 1 = some (g1.set 119 (21, s.il.set (t : Int).toNat 1)) := wrab_i (n := 119) W1.i (by omega) (by show (t : Int).toNat < s.il.length; omega) (Or.inr rfl)
    rw [Int.toNat_natCast] at w2
    generalize g1.set 119 (21, s.il.set t 1) = g2 at w2 W2 T2
    have r3 : rdr 7 g2 108 19 = some 120 := hq W2 rfl (by omega)
    have r4 : rdr 7 g2 108 16 = some 117 := hq W2 rfl (by omega)
    have r5 : rda 20 g2 117 (t : Int) = some c := (rda_n (n := 117) W2.o t).trans v2
    obtain ⟨W3, T3⟩ := W2.s20 (xs := s.li.set (6 * t + t) c) (by rw [List.length_set]; exact W.ln)
    have w3 : wra 20 g2 120 (6 * (t : Int) + (t : Int)) c = some (g2.set 120 (20, s.li.set (6 * (t : Int) + (t : Int)).toNat c)) := wra_i (n := 120) W2.n (by omega) (by show (6 * (t : Int) + (t : Int)).toNat < s.li.length; omega) _
    rw [show (6 * (t : Int) + (t : Int)).toNat = 6 * t + t by omega] at w3
    generalize g2.set 120 (20, s.li.set (6 * t + t) c) = g3 at w3 W3 T3
    have z := m_en104 (d := d) (L := L) (x3 := if X.t = 0 then 1 else 0) W3 t5 (5 - t) (t + 1) (s.li.set (6 * t + t) c) (by omega) (by rw [List.length_set]; exact W.ln)
    rw [set_same (show g3[120]? = some (20, s.li.set (6 * t + t) c) from W3.n)] at z
    obtain ⟨W4, T4⟩ := W3.s20 (xs := enF t (5 - t) (t + 1) (s.li.set (6 * t + t) c)) (by rw [enF_len, List.length_set]; exact W.ln)
    generalize g3.set 120 (20, enF t (5 - t) (t + 1) (s.li.set (6 * t + t) c)) = g4 at z W4 T4
    have r6 : rdr 7 g4 108 16 = some 117 := hq W4 rfl (by omega)
    have r7 : rda 20 g4 117 (t : Int) = some c := (rda_n (n := 117) W4.o t).trans v2
    have w4 : wra 20 g4 117 (t : Int) (c + 1) = some (g4.set 117 (20, s.ho.set (t : Int).toNat (c + 1))) := wra_i (n := 117) W4.o (by omega) (by show (t : Int).toNat < s.ho.length; omega) _
    rw [Int.toNat_natCast] at w4
    obtain ⟨W5, T5⟩ := W4.s17 (xs := s.ho.set t (c + 1)) (by rw [List.length_set]; exact W.lo)
    refine ⟨_, _, ?_, W5, rfl, rfl, rfl, rfl, rfl, ((((T1.tr T2).tr T3).tr T4).tr T5)⟩
    rw [k_Mo_ends_56]
    simp only [rL, w1, r2, w2, r3, r4, r5, Option.bind_some]
    rw [mul_id (by omega) (by omega), add_id (x := 6 * (t : Int)) (by omega) (by omega), w3, Option.bind_some, add_id (by omega) (by omega), show (t : Int) + 1 = ((t + 1 : Nat) : Int) by omega]
    refine z.trans ?_
    rw [k_Mo_ends_104, if_neg (by omega), r6, Option.bind_some, r7, Option.bind_some, add_id (by omega) (by omega), w4]
    rfl
  have rLt : ms ≠ -1 → rda 20 g 118 (t : Int) = some (if X.t = 0 then m else -m) := fun z => (rda_n (n := 118) W.l t).trans (v4 z)
  have head : cal (d + 1) m_Mo_ends [(107, 108), (0, (t : Int)), (0, L)] g = if m < (if X.t = 0 then L else -L) then run (d + 1) m_Mo_ends 56 [(107, 108), (0, (t : Int)), (0, L), (0, if X.t = 0 then 1 else 0), (9, 0), (9, 0)] [] g else run (d + 1) m_Mo_ends 60 [(107, 108), (0, (t : Int)), (0, L), (0, if X.t = 0 then 1 else 0), (9, 0), (9, 0)] [] g := by
    rw [k_Mo_ends, rR, Option.bind_some, mul_id (by omega) (by omega), add_id (by omega) (by omega), rT, Option.bind_some]
    by_cases z : X.t = 0
    · simp only [if_pos z] at hv rLt ⊢
      rw [rI, Option.bind_some, rIl, Option.bind_some]
      by_cases y : ms = -1
      · rw [if_pos y, if_pos rfl, if_pos (by have := v6 y; omega)]
      · have e := rLt y
        rw [if_neg y, if_neg (by decide), rL, Option.bind_some, e, Option.bind_some]
    · simp only [if_neg z] at hv rLt ⊢
      rw [rI, Option.bind_some, rIl, Option.bind_some]
      by_cases y : ms = -1
      · rw [if_pos y, if_pos rfl, if_pos (by have := v6 y; omega)]
      · have e := rLt y
        rw [if_neg y, if_neg (by decide), rL, Option.bind_some, e, Option.bind_some]
        by_cases x : m < -L
        · rw [if_pos x, if_pos (by omega)]
        · rw [if_neg x, if_neg (by omega)]
  rw [head]
  by_cases b : m < (if X.t = 0 then L else -L)
  · rw [if_pos b, if_pos b, if_pos b]
    obtain ⟨g', s', y1, y2, y3, y4, y5, y6, y7, y8⟩ := yes
    refine ⟨g', s', y1, y2, ⟨by rw [y3]; exact v1, by rw [y4]; exact List.getElem?_set_self (by omega), ?_, fun _ => ?_, fun k k0 k1 => ?_, fun z => by omega⟩, ⟨fun j hj => by rw [y3], fun j hj => ⟨by rw [y4, List.getElem?_set_ne (by omega)], by rw [y5, List.getElem?_set_ne (by omega)], by rw [y6, List.getElem?_set_ne (by omega)]⟩, fun j hj => ?_⟩, y8⟩
    · rw [y6, List.getElem?_set_self (by omega), if_neg (by omega)]
    · rw [y5, List.getElem?_set_self (by omega)]
      by_cases z : X.t = 0
      · rw [if_pos z, if_pos z]
      · rw [if_neg z, if_neg z, Int.neg_neg]
    · rw [y7, if_neg (by omega)]
      by_cases e : k = t
      · rw [if_pos e, e, enF_out _ _ _ _ (by omega), List.getElem?_set_self (by omega)]
      · rw [if_neg e, enF_in _ _ _ _ (by omega) (by omega) (by omega) (by rw [List.length_set]; omega), List.getElem?_set_ne (by omega)]
        exact hn k (by omega) k1
    · rw [y7, enF_out _ _ _ _ (by omega), List.getElem?_set_ne (by omega)]
  · rw [if_neg b, if_neg b, if_neg b]
    obtain ⟨W1, T1⟩ := W.s17 (xs := s.ho.set t (c + 1)) (by rw [List.length_set]; exact W.lo)
    refine ⟨_, _, no, W1, ⟨v1, List.getElem?_set_self (by omega), v3, v4, v5, v6⟩, ⟨fun j hj => rfl, fun j hj => ⟨?_, rfl, rfl⟩, fun j hj => rfl⟩, T1⟩
    show (s.ho.set t (c + 1))[j]? = _
    exact List.getElem?_set_ne (by omega)
end AHEAD
