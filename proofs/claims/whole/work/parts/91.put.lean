/-! The way up; things laid in and lifted out. -/
def su (Z : Nat → Bk) : Nat → Int → Int → Int → Int
  | 0, _, _, _ => -1
  | f + 1, a, y, k => if a = -1 then -1 else if a = y then k else su Z f (Z a.toNat).n y (k + 1)
def up (Z : Nat → Bk) : Nat → Int → Int
  | 0, a => a
  | f + 1, a => if a = -1 then -1 else up Z f (Z a.toNat).n
theorem pig : ∀ a b c d e f : Fin 5, a = b ∨ a = c ∨ a = d ∨ a = e ∨ a = f ∨ b = c ∨ b = d ∨ b = e ∨ b = f ∨ c = d ∨ c = e ∨ c = f ∨ d = e ∨ d = f ∨ e = f := by decide +kernel
section UP
variable {Z : Nat → Bk} {d : Nat}
theorem up_ne {f : Nat} {a : Int} (h : up Z (f + 1) a ≠ -1) : a ≠ -1 ∧ up Z f (Z a.toNat).n ≠ -1 := by
  unfold up at h
  by_cases z : a = -1
  · rw [if_pos z] at h; exact absurd rfl h
  · rw [if_neg z] at h; exact ⟨z, h⟩
theorem up5 (m : ZM Z) {a : Int} (ha : a = -1 ∨ (0 ≤ a ∧ a < 5)) : up Z 5 a = -1 := by
  obtain ⟨m1, -, -, -, rk, m5⟩ := m
  by_cases h : up Z 5 a = -1
  · exact h
  · exfalso
    have st : ∀ b : Int, (b = -1 ∨ (0 ≤ b ∧ b < 5)) → b ≠ -1 → (0 ≤ b ∧ b < 5) ∧ ((Z b.toNat).n = -1 ∨ (0 ≤ (Z b.toNat).n ∧ (Z b.toNat).n < 5)) ∧ ((Z b.toNat).n ≠ -1 → rk (Z b.toNat).n.toNat < rk b.toNat) := by
      intro b hb nb
      have q : 0 ≤ b ∧ b < 5 := by omega
      exact ⟨q, (m1 b.toNat (by omega)).2.2.2.2.2.2.2, m5 b.toNat (by omega)⟩
    obtain ⟨n0, h⟩ := up_ne h
    obtain ⟨q0, p0, r0⟩ := st _ ha n0
    generalize (Z a.toNat).n = a1 at h p0 r0
    obtain ⟨n1, h⟩ := up_ne h
    obtain ⟨q1, p1, r1⟩ := st _ p0 n1
    have r0 := r0 n1
    generalize (Z a1.toNat).n = a2 at h p1 r1
    obtain ⟨n2, h⟩ := up_ne h
    obtain ⟨q2, p2, r2⟩ := st _ p1 n2
    have r1 := r1 n2
    generalize (Z a2.toNat).n = a3 at h p2 r2
    obtain ⟨n3, h⟩ := up_ne h
    obtain ⟨q3, p3, r3⟩ := st _ p2 n3
    have r2 := r2 n3
    generalize (Z a3.toNat).n = a4 at h p3 r3
    obtain ⟨n4, h⟩ := up_ne h
    obtain ⟨q4, p4, r4⟩ := st _ p3 n4
    have r3 := r3 n4
    generalize (Z a4.toNat).n = a5 at h p4 r4
    have n5 : a5 ≠ -1 := h
    have r4 := r4 n5
    have q5 : 0 ≤ a5 ∧ a5 < 5 := by omega
    have pg := pig ⟨a.toNat, by omega⟩ ⟨a1.toNat, by omega⟩ ⟨a2.toNat, by omega⟩ ⟨a3.toNat, by omega⟩ ⟨a4.toNat, by omega⟩ ⟨a5.toNat, by omega⟩
    simp only [Fin.mk.injEq] at pg
    rcases pg with e | e | e | e | e | e | e | e | e | e | e | e | e | e | e <;> (have ee := congrArg rk e; omega)
theorem su_more : ∀ (f : Nat) (a y k k' : Int), 0 ≤ k → 0 ≤ k' → up Z f a = -1 → (su Z f a y k ≠ -1 ↔ su Z (f + 1) a y k' ≠ -1) := by
  intro f
  induction f with
  | zero =>
    intro a y k k' _ _ h
    have h : a = -1 := h
    show (-1 : Int) ≠ -1 ↔ (if a = -1 then (-1 : Int) else _) ≠ -1
    rw [if_pos h]
  | succ f ih =>
    intro a y k k' k0 k1 h
    show (if a = -1 then (-1 : Int) else if a = y then k else su Z f (Z a.toNat).n y (k + 1)) ≠ -1 ↔ (if a = -1 then (-1 : Int) else if a = y then k' else su Z (f + 1) (Z a.toNat).n y (k' + 1)) ≠ -1
    by_cases z : a = -1
    · rw [if_pos z, if_pos z]
    · rw [if_neg z, if_neg z]
      by_cases w : a = y
      · rw [if_pos w, if_pos w]; omega
      · rw [if_neg w, if_neg w]
        refine ih _ _ _ _ (by omega) (by omega) ?_
        unfold up at h
        rw [if_neg z] at h
        exact h
theorem c_su5 {h : AH} {x1 y : Int} (X : XH h Z) (m : ZM Z) : ∀ (f : Nat) (a k : Int), (a = -1 ∨ (0 ≤ a ∧ a < 5)) → 0 ≤ k → (f : Int) + k = 5 → run (d + 1) m_Bs_stepsUp 5 [(102, 51), (0, x1), (0, y), (0, a), (0, k)] [] h = some (su Z f a y k, h) := by
  intro f
  induction f with
  | zero => intro a k ha k0 e; rw [k_Bs_stepsUp_5, if_neg (by omega)]; rfl
  | succ f ih =>
    intro a k ha k0 e
    rw [k_Bs_stepsUp_5, if_pos (by omega)]
    show _ = some (if a = -1 then -1 else if a = y then k else su Z f (Z a.toNat).n y (k + 1), h)
    by_cases z : a = -1
    · rw [if_pos z, if_pos z]
    · rw [if_neg z, if_neg z]
      by_cases w : a = y
      · rw [if_pos w, if_pos w]
      · have a5 : a.toNat < 5 := by omega
        have rb := X.rb a5
        rw [show ((a.toNat : Nat) : Int) = a by omega] at rb
        rw [if_neg w, if_neg w]
        simp only [X.ra, rb, X.f5 a5, Option.bind_some]
        rw [add_id (by omega) (by omega)]
        exact ih _ _ (m.1 a.toNat a5).2.2.2.2.2.2.2 (by omega) (by omega)
theorem c_stepsUp {h : AH} {a y : Int} (X : XH h Z) (m : ZM Z) (ha : 0 ≤ a ∧ a < 5) : cal (d + 1) m_Bs_stepsUp [(102, 51), (0, a), (0, y)] h = some (su Z 5 a y 0, h) := by
  rw [k_Bs_stepsUp]
  exact c_su5 X m 5 a 0 (Or.inr ha) (by omega) (by omega)
theorem m_iw2 {h : AH} {hd ro ho wh tg li : List Int} {x1 y : Int} (M : ML h hd ro ho wh tg li) (R : ZR Z ro ho wh tg li) (m : ZM Z) (y0 : 0 ≤ y) : ∀ (f : Nat) (a k : Int), (a = -1 ∨ (0 ≤ a ∧ a < 5)) → 0 ≤ k → up Z f a = -1 → run (d + 1) m_Mo_isWithin 2 [(107, 108), (0, x1), (0, y), (0, a)] [] h = some (if su Z f a y k = -1 then 0 else 1, h) := by
  intro f
  induction f with
  | zero =>
    intro a k ha k0 u
    have u : a = -1 := u
    rw [k_Mo_isWithin_2, if_pos u, if_neg (by omega)]
    show _ = some (if (-1 : Int) = -1 then 0 else 1, h)
    rw [if_pos rfl]
  | succ f ih =>
    intro a k ha k0 u
    unfold up at u
    rw [k_Mo_isWithin_2]
    show _ = some (if (if a = -1 then (-1 : Int) else if a = y then k else su Z f (Z a.toNat).n y (k + 1)) = -1 then 0 else 1, h)
    by_cases z : a = -1
    · rw [if_pos z, if_pos z, if_pos rfl, if_neg (by omega)]
    · rw [if_neg z] at u
      rw [if_neg z, if_neg z]
      by_cases w : a = y
      · rw [if_pos w, if_pos w, if_pos w, if_neg (by omega)]
      · have a5 : a.toNat < 5 := by omega
        have rl := M.rL (i := a) (by omega) (by omega)
        rw [(R a.toNat a5).2.2.1] at rl
        rw [if_neg w, if_neg w, M.a28, Option.bind_some, rl, Option.bind_some]
        exact ih _ _ (m.1 a.toNat a5).2.2.2.2.2.2.2 (by omega) u
theorem m_isWithin {h : AH} {hd ro ho wh tg li : List Int} {a y : Int} (M : ML h hd ro ho wh tg li) (R : ZR Z ro ho wh tg li) (m : ZM Z) (y0 : 0 ≤ y) (ha : 0 ≤ a ∧ a < 5) : cal (d + 1) m_Mo_isWithin [(107, 108), (0, a), (0, y)] h = some (if su Z 5 a y 0 = -1 then 0 else 1, h) := by
  rw [k_Mo_isWithin]
  exact m_iw2 M R m y0 5 a 0 (Or.inr ha) (by omega) (up5 m (Or.inr ha))
end UP
/-- a thing more on top -/
def psh (b : Bk) (wt vl : Int) : Bk := mkK b.r (b.s + 1) b.t b.n (b.w.set b.s.toNat wt) (b.v.set b.s.toNat vl)
def pop (b : Bk) : Bk := mkK b.r (b.s - 1) b.t b.n b.w b.v
def lay (b : Bk) (n : Int) : Bk := mkK b.r b.s b.t n b.w b.v
section PUT
variable {Z : Nat → Bk} {d i : Nat} {h : AH} {wt vl : Int}
theorem c_push (X : XH h Z) (m : ZM Z) (hi : i < 5) (s4 : (Z i).s < 4) : ∃ h' : AH, cal (d + 1) m_Bx_push [(101, ((53 + 3 * i : Nat) : Int)), (0, wt), (0, vl)] h = some (0, h') ∧ XH h' (zu Z i (psh (Z i) wt vl)) ∧ Fr XB h h' := by
  have mi := m.1 i hi
  obtain ⟨h1, a1, X1, T1⟩ := X.ww hi (k := (Z i).s) (by omega) (by omega) wt
  have f1 : rdf 1 h1 ((53 + 3 * i : Nat) : Int) 3 = some (Z i).s := by have := X1.f3 hi; rw [zu_s] at this; exact this
  obtain ⟨h2, a2, X2, T2⟩ := X1.wv hi (k := (Z i).s) (by omega) (by rw [zu_s]; show (Z i).s.toNat < (Z i).v.length; omega) vl
  have f2 : rdf 1 h2 ((53 + 3 * i : Nat) : Int) 3 = some (Z i).s := by have := X2.f3 hi; rw [zu_s, zu_s] at this; exact this
  obtain ⟨h3, a3, X3, T3⟩ := X2.ws hi ((Z i).s + 1)
  refine ⟨h3, ?_, X3.eq (fun j hj => ?_), (T1.tr T2).tr T3⟩
  · rw [k_Bx_push]
    simp only [X.f3 hi, X.p0 hi, a1, X1.p1 hi, f1, a2, f2, Option.bind_some]
    rw [if_pos s4, add_id (by omega) (by omega), a3]
    rfl
  · by_cases z : j = i
    · subst z; rw [zu_s, zu_s, zu_s, zu_s]; rfl
    · rw [zu_n z, zu_n z, zu_n z, zu_n z]
theorem gd_ne {l : List Int} {a j : Nat} {x : Int} (h : a ≠ j) : (l.set a x).getD j 0 = l.getD j 0 := by rw [gdE, List.getElem?_set_ne h, ← gdE]
theorem psh_old {b : Bk} {k : Nat} (hs : 0 ≤ b.s) (hk : (k : Int) < b.s) : (psh b wt vl).w.getD k 0 = b.w.getD k 0 ∧ (psh b wt vl).v.getD k 0 = b.v.getD k 0 := by
  show (b.w.set b.s.toNat wt).getD k 0 = _ ∧ (b.v.set b.s.toNat vl).getD k 0 = _
  exact ⟨gd_ne (by omega), gd_ne (by omega)⟩
theorem psh_new {b : Bk} (hs : 0 ≤ b.s) (h4 : b.s < 4) (lw : b.w.length = 4) (lv : b.v.length = 4) : (psh b wt vl).w.getD b.s.toNat 0 = wt ∧ (psh b wt vl).v.getD b.s.toNat 0 = vl := by
  show (b.w.set b.s.toNat wt).getD _ 0 = _ ∧ (b.v.set b.s.toNat vl).getD _ 0 = _
  rw [gds (by omega), gds (by omega), if_pos rfl, if_pos rfl]
  exact ⟨rfl, rfl⟩
/-- something that is no box, laid in -/
theorem ZM.thing (m : ZM Z) (hi : i < 5) (t1 : (Z i).t = 1) (sr : (Z i).s < (Z i).r) (ok : (wt = 0 ∧ -9999 ≤ vl ∧ vl ≤ 9999) ∨ (wt = 1 ∧ 0 ≤ vl ∧ vl < 10)) : ZM (zu Z i (psh (Z i) wt vl)) := by
  obtain ⟨m1, m2, m3, m4, rk, m5⟩ := m
  have mi := m1 i hi
  have r4 := mi.2.2.2.2.2.1 t1
  have en : ∀ j, (zu Z i (psh (Z i) wt vl) j).n = (Z j).n := fun j => by
    by_cases z : j = i
    · subst z; rw [zu_s]; rfl
    · rw [zu_n z]
  have old : ∀ j k : Nat, (k : Int) < (Z j).s → 0 ≤ (Z j).s → (zu Z i (psh (Z i) wt vl) j).w.getD k 0 = (Z j).w.getD k 0 ∧ (zu Z i (psh (Z i) wt vl) j).v.getD k 0 = (Z j).v.getD k 0 := fun j k hk h0 => by
    by_cases z : j = i
    · subst z; rw [zu_s]; exact psh_old h0 hk
    · rw [zu_n z]; exact ⟨rfl, rfl⟩
  have nw := psh_new (wt := wt) (vl := vl) mi.2.1 (by omega) mi.2.2.2.1 mi.2.2.2.2.1
  have lt : ∀ j k : Nat, j < 5 → (k : Int) < (zu Z i (psh (Z i) wt vl) j).s → (k : Int) < (Z j).s ∨ (j = i ∧ k = (Z i).s.toNat) := fun j k hj hk => by
    by_cases z : j = i
    · subst z
      rw [zu_s] at hk
      have hk : (k : Int) < (Z j).s + 1 := hk
      omega
    · rw [zu_n z] at hk; exact Or.inl hk
  refine ⟨fun j hj => ?_, fun j hj k hk => ?_, fun j hj z => ?_, fun j hj k l hk hl w1 w2 w3 => ?_, rk, fun j hj z => ?_⟩
  · by_cases z : j = i
    · subst z
      rw [zu_s]
      refine ⟨mi.1, ?_, ?_, ?_, ?_, fun _ => ?_, fun y => ?_, mi.2.2.2.2.2.2.2⟩
      · show 0 ≤ (Z j).s + 1; omega
      · show (Z j).s + 1 ≤ 4; omega
      · show ((Z j).w.set _ _).length = 4; rw [List.length_set]; exact mi.2.2.2.1
      · show ((Z j).v.set _ _).length = 4; rw [List.length_set]; exact mi.2.2.2.2.1
      · show (Z j).s + 1 ≤ (Z j).r ∧ (Z j).r ≤ 4; omega
      · have y : (Z j).t = 0 := y; omega
    · rw [zu_n z]; exact m1 j hj
  · rcases lt j k hj hk with y | ⟨y1, y2⟩
    · rw [(old j k y (m1 j hj).2.1).1, (old j k y (m1 j hj).2.1).2, en]; exact m2 j hj k y
    · subst y1; subst y2
      rw [zu_s, nw.1, nw.2]
      rcases ok with o | o
      · exact Or.inl o
      · exact Or.inr (Or.inl o)
  · rw [en] at z ⊢
    obtain ⟨k, k1, k2, k3⟩ := m3 j hj z
    have rg := (m1 j hj).2.2.2.2.2.2.2
    have o := old (Z j).n.toNat k k1 (m1 _ (by omega)).2.1
    refine ⟨k, ?_, o.1.trans k2, o.2.trans k3⟩
    by_cases y : (Z j).n.toNat = i
    · rw [y, zu_s]
      rw [y] at k1
      show (k : Int) < (Z i).s + 1
      omega
    · rw [zu_n y]; exact k1
  · rcases lt j k hj hk with y | ⟨y1, y2⟩
    · rcases lt j l hj hl with x | ⟨x1, x2⟩
      · rw [(old j k y (m1 j hj).2.1).1] at w1
        rw [(old j l x (m1 j hj).2.1).1] at w2
        rw [(old j k y (m1 j hj).2.1).2, (old j l x (m1 j hj).2.1).2] at w3
        exact m4 j hj k l y x w1 w2 w3
      · subst x1; subst x2; rw [zu_s, nw.1] at w2; omega
    · subst y1; subst y2; rw [zu_s, nw.1] at w1; omega
  · rw [en] at z ⊢; exact m5 j hj z
/-- a box laid in another -/
theorem ZM.boxed (m : ZM Z) (hi : i < 5) (t1 : (Z i).t = 1) (sr : (Z i).s < (Z i).r) {y : Nat} (hy : y < 5) (ny : (Z y).n = -1) (no : su Z 5 (i : Int) (y : Int) 0 = -1) : ZM (zu (zu Z i (psh (Z i) 2 (y : Int))) y (lay (zu Z i (psh (Z i) 2 (y : Int)) y) (i : Int))) := by
  have U := fun a ha => up5 (a := a) m ha
  obtain ⟨m1, m2, m3, m4, rk, m5⟩ := m
  have mi := m1 i hi
  have r4 := mi.2.2.2.2.2.1 t1
  have yi : y ≠ i := by
    intro e
    subst e
    have : su Z 5 (y : Int) (y : Int) 0 = 0 := by
      show (if (y : Int) = -1 then (-1 : Int) else if (y : Int) = (y : Int) then 0 else _) = 0
      rw [if_neg (by omega), if_pos rfl]
    omega
  have ey : zu Z i (psh (Z i) 2 (y : Int)) y = Z y := zu_n yi
  rw [ey]
  have en : ∀ j, (zu (zu Z i (psh (Z i) 2 (y : Int))) y (lay (Z y) (i : Int)) j).n = if j = y then (i : Int) else (Z j).n := fun j => by
    by_cases z : j = y
    · subst z; rw [zu_s, if_pos rfl]; rfl
    · rw [zu_n z, if_neg z]
      by_cases w : j = i
      · subst w; rw [zu_s]; rfl
      · rw [zu_n w]
  have wv : ∀ j, (zu (zu Z i (psh (Z i) 2 (y : Int))) y (lay (Z y) (i : Int)) j).w = (zu Z i (psh (Z i) 2 (y : Int)) j).w ∧ (zu (zu Z i (psh (Z i) 2 (y : Int))) y (lay (Z y) (i : Int)) j).v = (zu Z i (psh (Z i) 2 (y : Int)) j).v ∧ (zu (zu Z i (psh (Z i) 2 (y : Int))) y (lay (Z y) (i : Int)) j).s = (zu Z i (psh (Z i) 2 (y : Int)) j).s := fun j => by
    by_cases z : j = y
    · subst z; rw [zu_s, ey]; exact ⟨rfl, rfl, rfl⟩
    · rw [zu_n z]; exact ⟨rfl, rfl, rfl⟩
  have old : ∀ j k : Nat, (k : Int) < (Z j).s → 0 ≤ (Z j).s → (zu Z i (psh (Z i) 2 (y : Int)) j).w.getD k 0 = (Z j).w.getD k 0 ∧ (zu Z i (psh (Z i) 2 (y : Int)) j).v.getD k 0 = (Z j).v.getD k 0 := fun j k hk h0 => by
    by_cases z : j = i
    · subst z; rw [zu_s]; exact psh_old h0 hk
    · rw [zu_n z]; exact ⟨rfl, rfl⟩
  have nw := psh_new (wt := 2) (vl := (y : Int)) mi.2.1 (by omega) mi.2.2.2.1 mi.2.2.2.2.1
  have lt : ∀ j k : Nat, j < 5 → (k : Int) < (zu Z i (psh (Z i) 2 (y : Int)) j).s → (k : Int) < (Z j).s ∨ (j = i ∧ k = (Z i).s.toNat) := fun j k hj hk => by
    by_cases z : j = i
    · subst z
      rw [zu_s] at hk
      have hk : (k : Int) < (Z j).s + 1 := hk
      omega
    · rw [zu_n z] at hk; exact Or.inl hk
  have noy : ∀ j k : Nat, j < 5 → (k : Int) < (Z j).s → (Z j).w.getD k 0 = 2 → (Z j).v.getD k 0 ≠ (y : Int) := fun j k hj hk w2 e => by
    rcases m2 j hj k hk with a | a | a
    · omega
    · omega
    · have := a.2.2.2
      rw [e, Int.toNat_natCast] at this
      omega
  refine ⟨fun j hj => ?_, fun j hj k hk => ?_, fun j hj z => ?_, fun j hj k l hk hl w1 w2 w3 => ?_, fun j => rk j + (if su Z 5 (j : Int) (y : Int) 0 = -1 then 0 else rk i + 1), fun j hj z => ?_⟩
  · by_cases z : j = y
    · subst z
      rw [zu_s]
      have mj := m1 j hj
      exact ⟨mj.1, mj.2.1, mj.2.2.1, mj.2.2.2.1, mj.2.2.2.2.1, mj.2.2.2.2.2.1, mj.2.2.2.2.2.2.1, Or.inr ⟨(by omega : (0 : Int) ≤ (i : Int)), (by omega : (i : Int) < 5)⟩⟩
    · rw [zu_n z]
      by_cases w : j = i
      · subst w
        rw [zu_s]
        refine ⟨mi.1, ?_, ?_, ?_, ?_, fun _ => ?_, fun y => ?_, mi.2.2.2.2.2.2.2⟩
        · show 0 ≤ (Z j).s + 1; omega
        · show (Z j).s + 1 ≤ 4; omega
        · show ((Z j).w.set _ _).length = 4; rw [List.length_set]; exact mi.2.2.2.1
        · show ((Z j).v.set _ _).length = 4; rw [List.length_set]; exact mi.2.2.2.2.1
        · show (Z j).s + 1 ≤ (Z j).r ∧ (Z j).r ≤ 4; omega
        · have y : (Z j).t = 0 := y; omega
      · rw [zu_n w]; exact m1 j hj
  · rw [(wv j).2.2] at hk
    rw [(wv j).1, (wv j).2.1]
    rcases lt j k hj hk with q | ⟨y1, y2⟩
    · rw [(old j k q (m1 j hj).2.1).1, (old j k q (m1 j hj).2.1).2, en]
      rcases m2 j hj k q with a | a | ⟨a1, a2, a3, a4⟩
      · exact Or.inl a
      · exact Or.inr (Or.inl a)
      · refine Or.inr (Or.inr ⟨a1, a2, a3, ?_⟩)
        have := noy j k hj q a1
        rw [if_neg (by omega)]; exact a4
    · subst y1; subst y2
      rw [zu_s, nw.1, nw.2, en, Int.toNat_natCast, if_pos rfl]
      exact Or.inr (Or.inr ⟨rfl, by omega, by omega, rfl⟩)
  · rw [en] at z ⊢
    by_cases q : j = y
    · rw [if_pos q, Int.toNat_natCast, (wv i).1, (wv i).2.1, (wv i).2.2, zu_s]
      refine ⟨(Z i).s.toNat, ?_, nw.1, by rw [nw.2, q]⟩
      show (((Z i).s.toNat : Nat) : Int) < (Z i).s + 1
      omega
    · rw [if_neg q] at z ⊢
      obtain ⟨k, k1, k2, k3⟩ := m3 j hj z
      have rg := (m1 j hj).2.2.2.2.2.2.2
      have o := old (Z j).n.toNat k k1 (m1 _ (by omega)).2.1
      rw [(wv _).1, (wv _).2.1, (wv _).2.2]
      refine ⟨k, ?_, o.1.trans k2, o.2.trans k3⟩
      by_cases w : (Z j).n.toNat = i
      · rw [w, zu_s]
        rw [w] at k1
        show (k : Int) < (Z i).s + 1
        omega
      · rw [zu_n w]; exact k1
  · rw [(wv j).2.2] at hk hl
    rw [(wv j).1] at w1 w2
    rw [(wv j).2.1] at w3
    rcases lt j k hj hk with q | ⟨y1, y2⟩
    · rcases lt j l hj hl with x | ⟨x1, x2⟩
      · rw [(old j k q (m1 j hj).2.1).1] at w1
        rw [(old j l x (m1 j hj).2.1).1] at w2
        rw [(old j k q (m1 j hj).2.1).2, (old j l x (m1 j hj).2.1).2] at w3
        exact m4 j hj k l q x w1 w2 w3
      · subst x1; subst x2
        rw [(old j k q (m1 j hj).2.1).1] at w1
        rw [(old j k q (m1 j hj).2.1).2, zu_s, nw.2] at w3
        exact absurd w3 (noy j k hj q w1)
    · subst y1; subst y2
      rcases lt j l hj hl with x | ⟨x1, x2⟩
      · rw [(old j l x (m1 j hj).2.1).1] at w2
        rw [(old j l x (m1 j hj).2.1).2, zu_s, nw.2] at w3
        exact absurd w3.symm (noy j l hj x w2)
      · exact x2.symm
  · rw [en] at z ⊢
    show rk (if j = y then (i : Int) else (Z j).n).toNat + (if su Z 5 (((if j = y then (i : Int) else (Z j).n).toNat : Nat) : Int) (y : Int) 0 = -1 then 0 else rk i + 1) < rk j + (if su Z 5 (j : Int) (y : Int) 0 = -1 then 0 else rk i + 1)
    by_cases q : j = y
    · subst q
      have e : su Z 5 (j : Int) (j : Int) 0 = 0 := by
        show (if (j : Int) = -1 then (-1 : Int) else if (j : Int) = (j : Int) then 0 else _) = 0
        rw [if_neg (by omega), if_pos rfl]
      rw [if_pos rfl, Int.toNat_natCast, no, if_pos rfl, e, if_neg (by omega)]
      omega
    · rw [if_neg q] at z ⊢
      have rg := (m1 j hj).2.2.2.2.2.2.2
      have lt5 := m5 j hj z
      rw [show (((Z j).n.toNat : Nat) : Int) = (Z j).n by omega]
      have e : su Z 5 (j : Int) (y : Int) 0 = su Z 4 (Z j).n (y : Int) 1 := by
        show (if (j : Int) = -1 then (-1 : Int) else if (j : Int) = (y : Int) then 0 else su Z 4 (Z (j : Int).toNat).n (y : Int) (0 + 1)) = _
        rw [if_neg (by omega), if_neg (by omega), Int.toNat_natCast]
        rfl
      have u4 : up Z 4 (Z j).n = -1 := by
        have := U (j : Int) (Or.inr ⟨by omega, by omega⟩)
        unfold up at this
        rw [if_neg (by omega), Int.toNat_natCast] at this
        exact this
      have sm := su_more 4 (Z j).n (y : Int) 1 0 (by omega) (by omega) u4
      rw [e]
      by_cases x : su Z 4 (Z j).n (y : Int) 1 = -1
      · have x2 : su Z 5 (Z j).n (y : Int) 0 = -1 := by
          by_cases w : su Z 5 (Z j).n (y : Int) 0 = -1
          · exact w
          · exact absurd x (sm.mpr w)
        rw [if_pos x, if_pos x2]; omega
      · have x2 := sm.mp x
        rw [if_neg x, if_neg x2]; omega
end PUT
