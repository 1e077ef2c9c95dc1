/-! A box that is gone. -/
/-- out of Z the box x is gone -/
def Rem (Z : Nat → Bk) (x : Nat) (Y : Nat → Bk) : Prop := (Y x).s = 0 ∧ (Y x).t = 0 ∧ (Y x).n = -1 ∧ (Y x).w.length = 4 ∧ (Y x).v.length = 4 ∧ ∀ j, j < 5 → j ≠ x → (Y j).r = (Z j).r ∧ (Y j).t = (Z j).t ∧ (Y j).n = (if (Z j).n = (x : Int) then -1 else (Z j).n) ∧ (Y j).w.length = 4 ∧ (Y j).v.length = 4 ∧ Pull (Z j).w (Z j).v (Z j).s (x : Int) (Y j).w (Y j).v (Y j).s
section REM
variable {d x : Nat}
/-- entries that stay, and where they stood -/
theorem Pull.src {w v w' v' : List Int} {s s' y : Int} (p : Pull w v s y w' v' s') (un : ∀ k l : Nat, (k : Int) < s → (l : Int) < s → w.getD k 0 = 2 → w.getD l 0 = 2 → v.getD k 0 = v.getD l 0 → k = l) {k : Nat} (hk : (k : Int) < s') : ∃ l : Nat, (l : Int) < s ∧ w'.getD k 0 = w.getD l 0 ∧ v'.getD k 0 = v.getD l 0 ∧ ¬ (w.getD l 0 = 2 ∧ v.getD l 0 = y) ∧ (l = k ∨ l = k + 1) ∧ (∀ k2 l2 : Nat, k2 < k → w'.getD k2 0 = w.getD l2 0 → v'.getD k2 0 = v.getD l2 0 → True) := by
  rcases p with ⟨a, b, c⟩ | ⟨k0, a1, a2, a3, a4, a5, a6⟩
  · exact ⟨k, by omega, (c k (by omega)).1, (c k (by omega)).2, a k (by omega), Or.inl rfl, fun _ _ _ _ _ => trivial⟩
  · by_cases z : k < k0
    · exact ⟨k, by omega, (a5 k z).1, (a5 k z).2, fun q => by have := un k k0 (by omega) a1 q.1 a2 (q.2.trans a3.symm); omega, Or.inl rfl, fun _ _ _ _ _ => trivial⟩
    · exact ⟨k + 1, by omega, (a6 k (by omega) (by omega)).1, (a6 k (by omega) (by omega)).2, fun q => by have := un (k + 1) k0 (by omega) a1 q.1 a2 (q.2.trans a3.symm); omega, Or.inr rfl, fun _ _ _ _ _ => trivial⟩
theorem Pull.dst {w v w' v' : List Int} {s s' y : Int} (p : Pull w v s y w' v' s') {l : Nat} (hl : (l : Int) < s) (ne : ¬ (w.getD l 0 = 2 ∧ v.getD l 0 = y)) : ∃ k : Nat, (k : Int) < s' ∧ w'.getD k 0 = w.getD l 0 ∧ v'.getD k 0 = v.getD l 0 := by
  rcases p with ⟨a, b, c⟩ | ⟨k0, a1, a2, a3, a4, a5, a6⟩
  · exact ⟨l, by omega, c l hl⟩
  · by_cases z : l < k0
    · exact ⟨l, by omega, a5 l z⟩
    · by_cases y' : l = k0
      · subst y'; exact absurd ⟨a2, a3⟩ ne
      · refine ⟨l - 1, by omega, ?_⟩
        have := a6 (l - 1) (by omega) (by omega)
        rw [show l - 1 + 1 = l by omega] at this
        exact this
theorem Pull.inj {w v w' v' : List Int} {s s' y : Int} (p : Pull w v s y w' v' s') (un : ∀ k l : Nat, (k : Int) < s → (l : Int) < s → w.getD k 0 = 2 → w.getD l 0 = 2 → v.getD k 0 = v.getD l 0 → k = l) {k l : Nat} (hk : (k : Int) < s') (hl : (l : Int) < s') (h1 : w'.getD k 0 = 2) (h2 : w'.getD l 0 = 2) (h3 : v'.getD k 0 = v'.getD l 0) : k = l := by
  rcases p with ⟨a, b, c⟩ | ⟨k0, a1, a2, a3, a4, a5, a6⟩
  · exact un k l (by omega) (by omega) (by rw [← (c k (by omega)).1]; exact h1) (by rw [← (c l (by omega)).1]; exact h2) (by rw [← (c k (by omega)).2, ← (c l (by omega)).2]; exact h3)
  · have f : ∀ m : Nat, (m : Int) < s' → ∃ m' : Nat, (m' : Int) < s ∧ w'.getD m 0 = w.getD m' 0 ∧ v'.getD m 0 = v.getD m' 0 ∧ ((m < k0 ∧ m' = m) ∨ (k0 ≤ m ∧ m' = m + 1)) := by
      intro m hm
      by_cases z : m < k0
      · exact ⟨m, by omega, (a5 m z).1, (a5 m z).2, Or.inl ⟨z, rfl⟩⟩
      · exact ⟨m + 1, by omega, (a6 m (by omega) (by omega)).1, (a6 m (by omega) (by omega)).2, Or.inr ⟨by omega, rfl⟩⟩
    obtain ⟨k', c1, c2, c3, c4⟩ := f k hk
    obtain ⟨l', d1, d2, d3, d4⟩ := f l hl
    have := un k' l' c1 d1 (by rw [← c2]; exact h1) (by rw [← d2]; exact h2) (by rw [← c3, ← d3]; exact h3)
    omega
theorem Pull.sz {w v w' v' : List Int} {s s' y : Int} (p : Pull w v s y w' v' s') (s0 : 0 ≤ s) : 0 ≤ s' ∧ s' ≤ s := by
  rcases p with ⟨a, b, c⟩ | ⟨k0, a1, a2, a3, a4, a5, a6⟩ <;> omega
theorem ZM.rem {Z Y : Nat → Bk} (m : ZM Z) (hx : x < 5) (R : Rem Z x Y) : ZM Y := by
  obtain ⟨m1, m2, m3, m4, rk, m5⟩ := m
  obtain ⟨r1, r2, r3, r4, r5, r6⟩ := R
  have yn : ∀ j, j < 5 → (Y j).n ≠ -1 → j ≠ x ∧ (Z j).n ≠ (x : Int) ∧ (Y j).n = (Z j).n := by
    intro j hj z
    have jx : j ≠ x := fun e => z (by rw [e]; exact r3)
    have := (r6 j hj jx).2.2.1
    by_cases y : (Z j).n = (x : Int)
    · rw [if_pos y] at this; exact absurd this z
    · rw [if_neg y] at this; exact ⟨jx, y, this⟩
  refine ⟨fun i hi => ?_, fun i hi k hk => ?_, fun j hj z => ?_, fun i hi k l hk hl => ?_, rk, fun j hj z => ?_⟩
  · by_cases e : i = x
    · subst e; rw [r1, r2, r3]; exact ⟨Or.inl rfl, by omega, by omega, r4, r5, fun z => by omega, fun _ => rfl, Or.inl rfl⟩
    · obtain ⟨q1, q2, q3, q4, q5, q6⟩ := r6 i hi e
      have mi := m1 i hi
      have sz := q6.sz mi.2.1
      rw [q1, q2, q3]
      refine ⟨mi.1, sz.1, by omega, q4, q5, fun z => by have := mi.2.2.2.2.2.1 z; omega, fun z => by have := mi.2.2.2.2.2.2.1 z; omega, ?_⟩
      have := mi.2.2.2.2.2.2.2
      split <;> omega
  · by_cases e : i = x
    · subst e; rw [r1] at hk; omega
    · obtain ⟨q1, q2, q3, q4, q5, q6⟩ := r6 i hi e
      obtain ⟨l, l1, l2, l3, l4, -⟩ := q6.src (m4 i hi) hk
      rw [l2, l3]
      rcases m2 i hi l l1 with a | a | ⟨a1, a2, a3, a4⟩
      · exact Or.inl a
      · exact Or.inr (Or.inl a)
      · refine Or.inr (Or.inr ⟨a1, a2, a3, ?_⟩)
        have vx : ((Z i).v.getD l 0).toNat ≠ x := fun z => l4 ⟨a1, by omega⟩
        rw [(r6 _ (by omega) vx).2.2.1, a4, if_neg (by omega)]
  · obtain ⟨jx, nx, en⟩ := yn j hj z
    have nz : (Z j).n ≠ -1 := by rw [← en]; exact z
    have rg := (m1 j hj).2.2.2.2.2.2.2
    obtain ⟨k, k1, k2, k3⟩ := m3 j hj nz
    rw [en]
    have ne : (Z j).n.toNat ≠ x := fun y => nx (by omega)
    obtain ⟨l, l1, l2, l3⟩ := (r6 _ (by omega) ne).2.2.2.2.2.dst k1 (fun y => by have := y.2; omega)
    exact ⟨l, l1, l2.trans k2, l3.trans k3⟩
  · by_cases e : i = x
    · subst e; rw [r1] at hk; omega
    · exact (r6 i hi e).2.2.2.2.2.inj (m4 i hi) hk hl
  · obtain ⟨jx, nx, en⟩ := yn j hj z
    rw [en]
    exact m5 j hj (by rw [← en]; exact z)
/-- the class's loop through all boxes -/
theorem c_rem15 {Z : Nat → Bk} {s0 : Int} (hx : x < 5) (m : ZM Z) : ∀ (k c : Nat) (Y : Nat → Bk) (h : AH), c + k = 5 → XH h Y → (∀ j, c ≤ j → j < 5 → Y j = Z j) → (∀ j, j < c → (Y j).r = (Z j).r ∧ (Y j).t = (Z j).t ∧ (Y j).n = (if (Z j).n = (x : Int) then -1 else (Z j).n) ∧ (Y j).w.length = 4 ∧ (Y j).v.length = 4 ∧ Pull (Z j).w (Z j).v (Z j).s (x : Int) (Y j).w (Y j).v (Y j).s) → ∃ (h' : AH) (Y' : Nat → Bk), run (d + 2) m_Bs_remove 15 [(102, 51), (0, (x : Int)), (101, ((53 + 3 * x : Nat) : Int)), (0, s0), (0, (c : Int))] [] h = some (s0, h') ∧ XH h' Y' ∧ Rem Z x Y' ∧ Fr XB h h' := by
  intro k
  induction k with
  | zero =>
    intro c Y h ck X _ D
    obtain ⟨h1, a1, X1, T1⟩ := X.wn hx (-1)
    obtain ⟨h2, a2, X2, T2⟩ := X1.ws hx 0
    obtain ⟨h3, a3, X3, T3⟩ := X2.wt hx (v := 0) (Or.inl rfl)
    refine ⟨h3, _, ?_, X3, ?_, (T1.tr T2).tr T3⟩
    · rw [k_Bs_remove_15, if_neg (by omega)]
      simp only [a1, a2, a3, Option.bind_some]
    · have dx := D x (by omega)
      refine ⟨?_, ?_, ?_, ?_, ?_, fun j hj jx => ?_⟩
      · rw [zu_s, zu_s]; rfl
      · rw [zu_s]; rfl
      · rw [zu_s, zu_s, zu_s]; rfl
      · rw [zu_s, zu_s, zu_s]; exact dx.2.2.2.1
      · rw [zu_s, zu_s, zu_s]; exact dx.2.2.2.2.1
      · rw [zu_n jx, zu_n jx, zu_n jx]; exact D j (by omega)
  | succ k ih =>
    intro c Y h ck X U D
    have c5 : c < 5 := by omega
    have ec := U c (by omega) c5
    have mc := m.1 c c5
    obtain ⟨h1, w', v', s', p1, X1, lw, lv, P, T1⟩ := c_pullA (d := d) (x := (x : Int)) c5 (Y c).s.toNat 0 Y h X (by rw [ec]; exact mc.2.2.2.1) (by rw [ec]; exact mc.2.2.2.2.1) (by rw [ec]; exact mc.2.2.1) (by rw [ec]; have := mc.2.1; omega) (fun j hj => by omega) (by rw [ec]; exact m.2.2.2.1 c c5)
    rw [ec] at P X1
    have p1 : cal (d + 1) m_Bx_pullBox [(101, ((53 + 3 * c : Nat) : Int)), (0, (x : Int))] h = some (0, h1) := by rw [k_Bx_pullBox]; exact p1
    have f5 := X1.f5 c5
    rw [zu_s] at f5
    have f5 : rdf 1 h1 ((53 + 3 * c : Nat) : Int) 5 = some (Z c).n := f5
    by_cases z : (Z c).n = (x : Int)
    · obtain ⟨h2, a2, X2, T2⟩ := X1.wn c5 (-1)
      obtain ⟨h', Y', b1, b2, b3, b4⟩ := ih (c + 1) _ h2 (by omega) X2 (fun j j0 j1 => by rw [zu_n (by omega), zu_n (by omega)]; exact U j (by omega) j1) (fun j hj => by
        by_cases e : j = c
        · subst e
          rw [zu_s, zu_s, if_pos z]
          exact ⟨rfl, rfl, rfl, lw, lv, P⟩
        · rw [zu_n e, zu_n e]; exact D j (by omega))
      refine ⟨h', Y', ?_, b2, b3, (T1.tr T2).tr b4⟩
      rw [k_Bs_remove_15, if_pos (by omega)]
      simp only [X.ra, X.rb c5, p1, X1.ra, X1.rb c5, f5, a2, Option.bind_some]
      rw [if_pos z, add_id (by omega) (by omega), show (c : Int) + 1 = ((c + 1 : Nat) : Int) by omega]
      exact b1
    · obtain ⟨h', Y', b1, b2, b3, b4⟩ := ih (c + 1) _ h1 (by omega) X1 (fun j j0 j1 => by rw [zu_n (by omega)]; exact U j (by omega) j1) (fun j hj => by
        by_cases e : j = c
        · subst e
          rw [zu_s, if_neg z]
          exact ⟨rfl, rfl, rfl, lw, lv, P⟩
        · rw [zu_n e]; exact D j (by omega))
      refine ⟨h', Y', ?_, b2, b3, T1.tr b4⟩
      rw [k_Bs_remove_15, if_pos (by omega)]
      simp only [X.ra, X.rb c5, p1, X1.ra, X1.rb c5, f5, Option.bind_some]
      rw [if_neg z, add_id (by omega) (by omega), show (c : Int) + 1 = ((c + 1 : Nat) : Int) by omega]
      exact b1
theorem c_remove {Z : Nat → Bk} {h : AH} (hx : x < 5) (X : XH h Z) (m : ZM Z) : ∃ (h' : AH) (Y : Nat → Bk), cal (d + 2) m_Bs_remove [(102, 51), (0, (x : Int))] h = some ((Z x).s, h') ∧ XH h' Y ∧ Rem Z x Y ∧ Fr XB h h' := by
  obtain ⟨h', Y, a, b⟩ := c_rem15 (d := d) (s0 := (Z x).s) hx m 5 0 Z h (by omega) X (fun _ _ _ => rfl) (fun j hj => by omega)
  refine ⟨h', Y, ?_, b⟩
  rw [k_Bs_remove]
  simp only [X.ra, X.rb hx, X.f3 hx, Option.bind_some]
  exact a
end REM
