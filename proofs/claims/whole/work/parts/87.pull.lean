/-! A box pulled out of another. -/
def shL : Nat → Nat → List Int → List Int
  | 0, _, w => w
  | k + 1, n, w => shL k (n + 1) (w.set (n - 1) (w.getD n 0))
theorem shL_len : ∀ (k n : Nat) (w : List Int), (shL k n w).length = w.length := by
  intro k
  induction k with
  | zero => intro n w; rfl
  | succ k ih => intro n w; show (shL k _ _).length = _; rw [ih, List.length_set]
theorem shL_lo : ∀ (k n : Nat) (w : List Int) (j : Nat), 1 ≤ n → j < n - 1 → (shL k n w).getD j 0 = w.getD j 0 := by
  intro k
  induction k with
  | zero => intro n w j _ _; rfl
  | succ k ih =>
    intro n w j h0 h1
    show (shL k _ _).getD j 0 = _
    rw [ih _ _ _ (by omega) (by omega), gdE, List.getElem?_set_ne (by omega), ← gdE]
theorem shL_hi : ∀ (k n : Nat) (w : List Int) (j : Nat), 1 ≤ n → n - 1 ≤ j → j + 1 < n + k → n + k ≤ w.length → (shL k n w).getD j 0 = w.getD (j + 1) 0 := by
  intro k
  induction k with
  | zero => intro n w j h0 h1 h2; omega
  | succ k ih =>
    intro n w j h0 h1 h2 h3
    show (shL k _ _).getD j 0 = _
    by_cases e : j = n - 1
    · rw [shL_lo _ _ _ _ (by omega) (by omega), e, gdE, List.getElem?_set_self (by omega), show n - 1 + 1 = n by omega]; rfl
    · rw [ih _ _ _ (by omega) (by omega) (by omega) (by rw [List.length_set]; omega), gdE, List.getElem?_set_ne (by omega), ← gdE]
theorem set_gd {l : List Int} {k : Nat} (h : k < l.length) : l.set k (l.getD k 0) = l := by
  apply List.ext_getElem?
  intro j
  rw [List.getElem?_set]
  by_cases e : k = j
  · subst e; rw [if_pos rfl, if_pos h]; exact (getD_some h).symm
  · rw [if_neg e]
/-- what pulling x does to what lies in a box -/
def Pull (w v : List Int) (s x : Int) (w' v' : List Int) (s' : Int) : Prop :=
  ((∀ k : Nat, (k : Int) < s → ¬ (w.getD k 0 = 2 ∧ v.getD k 0 = x)) ∧ s' = s ∧ ∀ k : Nat, (k : Int) < s → w'.getD k 0 = w.getD k 0 ∧ v'.getD k 0 = v.getD k 0) ∨
  (∃ k0 : Nat, (k0 : Int) < s ∧ w.getD k0 0 = 2 ∧ v.getD k0 0 = x ∧ s' = s - 1 ∧ (∀ k : Nat, k < k0 → w'.getD k 0 = w.getD k 0 ∧ v'.getD k 0 = v.getD k 0) ∧ (∀ k : Nat, k0 ≤ k → (k : Int) < s - 1 → w'.getD k 0 = w.getD (k + 1) 0 ∧ v'.getD k 0 = v.getD (k + 1) 0))
section PULL
variable {d i : Nat} {x : Int}
theorem c_pullB (hi : i < 5) : ∀ (k n : Nat) (Z : Nat → Bk) (h : AH), XH h Z → (Z i).w.length = 4 → (Z i).v.length = 4 → (Z i).s ≤ 4 → 1 ≤ n → (n : Int) + (k : Int) = (Z i).s → (∀ j : Nat, n ≤ j → (j : Int) < (Z i).s → ¬ ((Z i).w.getD j 0 = 2 ∧ (Z i).v.getD j 0 = x)) → ∃ h' : AH, run (d + 1) m_Bx_pullBox 4 [(101, ((53 + 3 * i : Nat) : Int)), (0, x), (0, (n : Int) - 1), (0, (n : Int))] [] h = some (0, h') ∧ XH h' (zu Z i (mkK (Z i).r ((Z i).s - 1) (Z i).t (Z i).n (shL k n (Z i).w) (shL k n (Z i).v))) ∧ Fr XB h h' := by
  intro k
  induction k with
  | zero =>
    intro n Z h X lw lv s4 n1 ns no
    obtain ⟨h', a, b, c⟩ := X.ws hi ((n : Int) - 1)
    refine ⟨h', ?_, ?_, c⟩
    · rw [k_Bx_pullBox_4, X.f3 hi, Option.bind_some, if_neg (by omega), a]; rfl
    · rw [show (n : Int) - 1 = (Z i).s - 1 by omega] at b; exact b
  | succ k ih =>
    intro n Z h X lw lv s4 n1 ns no
    have rw1 : rda 20 h ((54 + 3 * i : Nat) : Int) (n : Int) = some ((Z i).w.getD n 0) := by
      have := X.rw hi (k := (n : Int)) (by omega) (by omega)
      rw [Int.toNat_natCast] at this; exact this
    have rv1 : rda 20 h ((55 + 3 * i : Nat) : Int) (n : Int) = some ((Z i).v.getD n 0) := by
      have := X.rv hi (k := (n : Int)) (by omega) (by omega)
      rw [Int.toNat_natCast] at this; exact this
    obtain ⟨h1, a1, X1, T1⟩ := X.ww hi (k := (n : Int) - 1) (by omega) (by omega) ((Z i).w.getD n 0)
    have f1 := X1.p1 hi
    have rv2 : rda 20 h1 ((55 + 3 * i : Nat) : Int) (n : Int) = some ((Z i).v.getD n 0) := by
      have := X1.rv hi (k := (n : Int)) (by omega) (by rw [zu_s]; show (n : Int).toNat < (Z i).v.length; omega)
      rw [Int.toNat_natCast, zu_s] at this; exact this
    obtain ⟨h2, a2, X2, T2⟩ := X1.wv hi (k := (n : Int) - 1) (by omega) (by rw [zu_s]; show ((n : Int) - 1).toNat < (Z i).v.length; omega) ((Z i).v.getD n 0)
    have X3 : XH h2 (zu Z i (mkK (Z i).r (Z i).s (Z i).t (Z i).n ((Z i).w.set (n - 1) ((Z i).w.getD n 0)) ((Z i).v.set (n - 1) ((Z i).v.getD n 0)))) := by
      refine X2.eq (fun j hj => ?_)
      by_cases z : j = i
      · subst z; rw [zu_s, zu_s, zu_s, show ((n : Int) - 1).toNat = n - 1 by omega]; rfl
      · rw [zu_n z, zu_n z, zu_n z]
    have E : run (d + 1) m_Bx_pullBox 4 [(101, ((53 + 3 * i : Nat) : Int)), (0, x), (0, (n : Int) - 1), (0, (n : Int))] [] h = run (d + 1) m_Bx_pullBox 4 [(101, ((53 + 3 * i : Nat) : Int)), (0, x), (0, ((n + 1 : Nat) : Int) - 1), (0, ((n + 1 : Nat) : Int))] [] h2 := by
      rw [k_Bx_pullBox_4, X.f3 hi, Option.bind_some, if_pos (by omega)]
      simp only [X.p0 hi, X.p1 hi, rw1, rv1, a1, f1, rv2, a2, Option.bind_some]
      rw [add_id (x := (n : Int) - 1) (by omega) (by omega), add_id (x := (n : Int)) (by omega) (by omega), show (n : Int) - 1 + 1 = ((n + 1 : Nat) : Int) - 1 by omega, show (n : Int) + 1 = ((n + 1 : Nat) : Int) by omega]
      by_cases z : (Z i).w.getD n 0 = 2
      · rw [if_pos z, if_neg (fun y => no n (by omega) (by omega) ⟨z, y⟩)]
      · rw [if_neg z]
    have e3 : (zu Z i (mkK (Z i).r (Z i).s (Z i).t (Z i).n ((Z i).w.set (n - 1) ((Z i).w.getD n 0)) ((Z i).v.set (n - 1) ((Z i).v.getD n 0)))) i = mkK (Z i).r (Z i).s (Z i).t (Z i).n ((Z i).w.set (n - 1) ((Z i).w.getD n 0)) ((Z i).v.set (n - 1) ((Z i).v.getD n 0)) := zu_s
    obtain ⟨h', b1, b2, b3⟩ := ih (n + 1) _ h2 X3 (by rw [e3]; show ((Z i).w.set _ _).length = 4; rw [List.length_set]; exact lw) (by rw [e3]; show ((Z i).v.set _ _).length = 4; rw [List.length_set]; exact lv) (by rw [e3]; exact s4) (by omega) (by rw [e3]; show ((n + 1 : Nat) : Int) + (k : Int) = (Z i).s; omega) (fun j j0 j1 => by
      rw [e3] at j1 ⊢
      show ¬ (((Z i).w.set (n - 1) _).getD j 0 = 2 ∧ ((Z i).v.set (n - 1) _).getD j 0 = x)
      rw [gds (by omega), if_neg (by omega), gds (by omega), if_neg (by omega)]
      exact no j (by omega) j1)
    refine ⟨h', E.trans b1, ?_, (T1.tr T2).tr b3⟩
    refine b2.eq (fun j hj => ?_)
    by_cases z : j = i
    · subst z; rw [zu_s, zu_s, e3]; rfl
    · rw [zu_n z, zu_n z, zu_n z]
theorem c_pullA (hi : i < 5) : ∀ (k n : Nat) (Z : Nat → Bk) (h : AH), XH h Z → (Z i).w.length = 4 → (Z i).v.length = 4 → (Z i).s ≤ 4 → (n : Int) + (k : Int) = (Z i).s → (∀ j : Nat, j < n → ¬ ((Z i).w.getD j 0 = 2 ∧ (Z i).v.getD j 0 = x)) → (∀ k l : Nat, (k : Int) < (Z i).s → (l : Int) < (Z i).s → (Z i).w.getD k 0 = 2 → (Z i).w.getD l 0 = 2 → (Z i).v.getD k 0 = (Z i).v.getD l 0 → k = l) → ∃ (h' : AH) (w' v' : List Int) (s' : Int), run (d + 1) m_Bx_pullBox 4 [(101, ((53 + 3 * i : Nat) : Int)), (0, x), (0, (n : Int)), (0, (n : Int))] [] h = some (0, h') ∧ XH h' (zu Z i (mkK (Z i).r s' (Z i).t (Z i).n w' v')) ∧ w'.length = 4 ∧ v'.length = 4 ∧ Pull (Z i).w (Z i).v (Z i).s x w' v' s' ∧ Fr XB h h' := by
  intro k
  induction k with
  | zero =>
    intro n Z h X lw lv s4 ns no un
    obtain ⟨h', a, b, c⟩ := X.ws hi (n : Int)
    refine ⟨h', (Z i).w, (Z i).v, (Z i).s, ?_, ?_, lw, lv, Or.inl ⟨fun j hj => no j (by omega), rfl, fun _ _ => ⟨rfl, rfl⟩⟩, c⟩
    · rw [k_Bx_pullBox_4, X.f3 hi, Option.bind_some, if_neg (by omega), a]; rfl
    · rw [show (n : Int) = (Z i).s by omega] at b; exact b
  | succ k ih =>
    intro n Z h X lw lv s4 ns no un
    have rw1 : rda 20 h ((54 + 3 * i : Nat) : Int) (n : Int) = some ((Z i).w.getD n 0) := by
      have := X.rw hi (k := (n : Int)) (by omega) (by omega)
      rw [Int.toNat_natCast] at this; exact this
    have rv1 : rda 20 h ((55 + 3 * i : Nat) : Int) (n : Int) = some ((Z i).v.getD n 0) := by
      have := X.rv hi (k := (n : Int)) (by omega) (by omega)
      rw [Int.toNat_natCast] at this; exact this
    by_cases hit : (Z i).w.getD n 0 = 2 ∧ (Z i).v.getD n 0 = x
    · obtain ⟨h', b1, b2, b3⟩ := c_pullB (d := d) (x := x) hi k (n + 1) Z h X lw lv s4 (by omega) (by omega) (fun j j0 j1 y => by
        have := un n j (by omega) j1 hit.1 y.1 (hit.2.trans y.2.symm)
        omega)
      refine ⟨h', _, _, _, ?_, b2, by rw [shL_len]; exact lw, by rw [shL_len]; exact lv, Or.inr ⟨n, by omega, hit.1, hit.2, rfl, fun k' hk => ⟨shL_lo _ _ _ _ (by omega) (by omega), shL_lo _ _ _ _ (by omega) (by omega)⟩, fun k' k0 k1 => ⟨shL_hi _ _ _ _ (by omega) (by omega) (by omega) (by omega), shL_hi _ _ _ _ (by omega) (by omega) (by omega) (by omega)⟩⟩, b3⟩
      rw [k_Bx_pullBox_4, X.f3 hi, Option.bind_some, if_pos (by omega)]
      simp only [X.p0 hi, X.p1 hi, rw1, rv1, Option.bind_some]
      rw [if_pos hit.1, if_pos hit.2, add_id (by omega) (by omega), show (n : Int) + 1 = ((n + 1 : Nat) : Int) by omega]
      rw [show (n : Int) = ((n + 1 : Nat) : Int) - 1 by omega]
      exact b1
    · obtain ⟨h1, a1, X1, T1⟩ := X.ww hi (k := (n : Int)) (by omega) (by omega) ((Z i).w.getD n 0)
      have X1' : XH h1 Z := X1.eq (fun j hj => by
        by_cases z : j = i
        · subst z; rw [zu_s, Int.toNat_natCast, set_gd (by omega)]; rfl
        · rw [zu_n z])
      have rv2 : rda 20 h1 ((55 + 3 * i : Nat) : Int) (n : Int) = some ((Z i).v.getD n 0) := by
        have := X1'.rv hi (k := (n : Int)) (by omega) (by omega)
        rw [Int.toNat_natCast] at this; exact this
      obtain ⟨h2, a2, X2, T2⟩ := X1'.wv hi (k := (n : Int)) (by omega) (by omega) ((Z i).v.getD n 0)
      have X2' : XH h2 Z := X2.eq (fun j hj => by
        by_cases z : j = i
        · subst z; rw [zu_s, Int.toNat_natCast, set_gd (by omega)]; rfl
        · rw [zu_n z])
      obtain ⟨h', w', v', s', b1, b2⟩ := ih (n + 1) Z h2 X2' lw lv s4 (by omega) (fun j hj => by
        by_cases e : j = n
        · rw [e]; exact hit
        · exact no j (by omega)) un
      refine ⟨h', w', v', s', ?_, b2.1, b2.2.1, b2.2.2.1, b2.2.2.2.1, (T1.tr T2).tr b2.2.2.2.2⟩
      rw [k_Bx_pullBox_4, X.f3 hi, Option.bind_some, if_pos (by omega)]
      simp only [X.p0 hi, X.p1 hi, rw1, rv1, a1, X1'.p1 hi, rv2, a2, Option.bind_some]
      rw [add_id (by omega) (by omega), show (n : Int) + 1 = ((n + 1 : Nat) : Int) by omega]
      by_cases z : (Z i).w.getD n 0 = 2
      · rw [if_pos z, if_neg (fun y => hit ⟨z, y⟩)]; exact b1
      · rw [if_neg z]; exact b1
theorem c_pull {Z : Nat → Bk} {h : AH} (hi : i < 5) (X : XH h Z) (m : ZM Z) : ∃ (h' : AH) (w' v' : List Int) (s' : Int), cal (d + 1) m_Bx_pullBox [(101, ((53 + 3 * i : Nat) : Int)), (0, x)] h = some (0, h') ∧ XH h' (zu Z i (mkK (Z i).r s' (Z i).t (Z i).n w' v')) ∧ w'.length = 4 ∧ v'.length = 4 ∧ Pull (Z i).w (Z i).v (Z i).s x w' v' s' ∧ Fr XB h h' := by
  have q := m.1 i hi
  have := c_pullA (d := d) (x := x) hi (Z i).s.toNat 0 Z h X q.2.2.2.1 q.2.2.2.2.1 q.2.2.1 (by omega) (fun j hj => by omega) (m.2.2.2.1 i hi)
  rw [k_Bx_pullBox]
  exact this
end PULL
