/-! The model's move is the same. -/
def anyF (B : Bo) (st : Int) : Nat → Int → Bool
  | 0, _ => false
  | k + 1, c => (decide (c ≠ st) && B.tk c) || anyF B st k (c + 1)
theorem anyF_iff {B : Bo} {st : Int} : ∀ (k : Nat) (c : Int), anyF B st k c = true ↔ ∃ j : Int, c ≤ j ∧ j < c + (k : Int) ∧ j ≠ st ∧ B.tk j = true := by
  intro k
  induction k with
  | zero => intro c; exact ⟨fun z => (by cases z), fun ⟨j, h1, h2, _⟩ => by omega⟩
  | succ k ih =>
    intro c
    unfold anyF
    rw [Bool.or_eq_true, Bool.and_eq_true, decide_eq_true_eq, ih]
    constructor
    · rintro (⟨h1, h2⟩ | ⟨j, h1, h2, h3, h4⟩)
      · exact ⟨c, by omega, by omega, h1, h2⟩
      · exact ⟨j, by omega, by omega, h3, h4⟩
    · rintro ⟨j, h1, h2, h3, h4⟩
      by_cases e : j = c
      · subst e; exact Or.inl ⟨h3, h4⟩
      · exact Or.inr ⟨j, by omega, by omega, h3, h4⟩
/-- where no taker is found within k houses, none of them takes -/
theorem ntk_none {B : Bo} {st : Int} (O : BoOK B) : ∀ (k : Nat) (a : Int), 0 ≤ a → a < 2 * B.w → ntk B st k a = -1 → ∀ j : Int, (a < j ∧ j ≤ a + (k : Int) ∧ j < 2 * B.w ∨ (0 ≤ j ∧ j + 2 * B.w ≤ a + (k : Int) ∧ j < 2 * B.w)) → ¬ (j ≠ st ∧ B.tk j = true) := by
  intro k
  induction k with
  | zero => intro a h0 h1 _ j hj; omega
  | succ k ih =>
    intro a h0 h1 e j hj
    have hn := nx_r (i := a) O h0
    unfold ntk at e
    by_cases z : nx B a ≠ st ∧ B.tk (nx B a) = true
    · rw [if_pos z] at e; omega
    · rw [if_neg z] at e
      by_cases q : j = nx B a
      · rw [q]; exact z
      · refine ih (nx B a) hn.1 hn.2 e j ?_
        unfold nx at q ⊢
        by_cases y : a + 1 < 2 * B.w
        · rw [if_pos y] at q ⊢; omega
        · rw [if_neg y] at q ⊢; omega
theorem any_ntk {B : Bo} {st a : Int} (O : BoOK B) (h0 : 0 ≤ a) (h1 : a < 2 * B.w) : anyF B st (2 * B.w).toNat 0 = !decide (ntk B st (2 * B.w).toNat a = -1) := by
  have hw := O.w2
  by_cases e : ntk B st (2 * B.w).toNat a = -1
  · rw [decide_eq_true e]
    cases hf : anyF B st (2 * B.w).toNat 0 with
    | false => rfl
    | true =>
      obtain ⟨j, g1, g2, g3, g4⟩ := (anyF_iff _ _).mp hf
      exact absurd ⟨g3, g4⟩ (ntk_none O _ a h0 h1 e j (by omega))
  · rw [decide_eq_false e]
    rcases ntk_r (st := st) O (2 * B.w).toNat a h0 with z | ⟨g1, g2, g3, g4⟩
    · exact absurd z e
    · exact (anyF_iff _ _).mpr ⟨_, g1, by omega, g3, g4⟩
section MGO
variable {h : AH} {q d : Nat} {B : Bo} {st : Int}
theorem m_any1 (H : MnH h q B) (O : BoOK B) : ∀ (k : Nat) (c : Int), 0 ≤ c → c + (k : Int) = 2 * B.w → run (d + 2) m_Mo_anyTakes 4 [(107, (q : Int)), (0, st), (0, 1), (0, c)] [] h = some (1, h) := by
  have hw2 := O.w2
  have hw5 := O.w5
  intro k
  induction k with
  | zero => intro c h0 h1; rw [k_Mo_anyTakes_4, H.now, Option.bind_some, H.rw0, Option.bind_some, mul_id (by omega) (by omega), if_neg (by omega), if_pos (Or.inr rfl)]
  | succ k ih => intro c h0 h1; rw [k_Mo_anyTakes_4, H.now, Option.bind_some, H.rw0, Option.bind_some, mul_id (by omega) (by omega), if_pos (by omega), if_neg (by decide), add_id (by omega) (by omega), ih (c + 1) (by omega) (by omega)]
theorem m_any0 (H : MnH h q B) (O : BoOK B) : ∀ (k : Nat) (c : Int), 0 ≤ c → c + (k : Int) = 2 * B.w → run (d + 2) m_Mo_anyTakes 4 [(107, (q : Int)), (0, st), (0, 0), (0, c)] [] h = some (bI (anyF B st k c), h) := by
  have hw2 := O.w2
  have hw5 := O.w5
  intro k
  induction k with
  | zero => intro c h0 h1; rw [k_Mo_anyTakes_4, H.now, Option.bind_some, H.rw0, Option.bind_some, mul_id (by omega) (by omega), if_neg (by omega), if_pos (Or.inl rfl)]; rfl
  | succ k ih =>
    intro c h0 h1
    have hk := ki_r O h0 (by omega)
    rw [k_Mo_anyTakes_4, H.now, Option.bind_some, H.rw0, Option.bind_some, mul_id (by omega) (by omega), if_pos (by omega), if_pos rfl, add_id (x := c) (by omega) (by omega)]
    unfold anyF
    by_cases e : c = st
    · rw [if_pos e, ih (c + 1) (by omega) (by omega)]
      simp [e]
    · rw [if_neg e, Option.bind_some, H.rk O h0 (by omega), Option.bind_some, Option.bind_some, H.rs O h0 (by omega), Option.bind_some, m_takesOne hk.1 hk.2, Option.bind_some]
      show (if bI (B.tk c) = 0 then _ else _) = _
      cases ht : B.tk c with
      | false =>
        rw [if_pos (show bI false = 0 from rfl)]
        show run (d + 2) m_Mo_anyTakes 4 [(107, (q : Int)), (0, st), (0, 0), (0, c + 1)] [] h = _
        rw [ih (c + 1) (by omega) (by omega)]
        simp
      | true =>
        rw [if_neg (by decide)]
        show run (d + 2) m_Mo_anyTakes 4 [(107, (q : Int)), (0, st), (0, 1), (0, c + 1)] [] h = _
        rw [m_any1 H O k (c + 1) (by omega) (by omega)]
        simp [e, bI]
theorem m_any (H : MnH h q B) (O : BoOK B) {a : Int} (h0 : 0 ≤ a) (h1 : a < 2 * B.w) : cal (d + 2) m_Mo_anyTakes [(107, (q : Int)), (0, st)] h = some (bI (!decide (ntk B st (2 * B.w).toNat a = -1)), h) := by
  have hw2 := O.w2
  rw [k_Mo_anyTakes, m_any0 H O (2 * B.w).toNat 0 (by omega) (by omega), any_ntk O h0 h1]
theorem m_49 (H : MnH h q B) (O : BoOK B) {t x3 : Int} {v5 v6 : AV} : ∀ (k : Nat) (a : Int), 0 ≤ a → a < 2 * B.w → ntk B st k a ≠ -1 → run (d + 2) m_Mo_goes 49 [(107, (q : Int)), (0, st), (0, t), (0, x3), (0, nx B a), v5, v6] [] h = run (d + 2) m_Mo_goes 29 [(107, (q : Int)), (0, st), (0, t), (0, a_add x3 (-1)), (0, ntk B st k a), v5, v6] [] (setN h q (B.setS (ntk B st k a) (B.si (ntk B st k a) + 1))) := by
  have hw2 := O.w2
  have hw5 := O.w5
  intro k
  induction k with
  | zero => intro a _ _ e; exact absurd rfl e
  | succ k ih =>
    intro a h0 h1 e
    have hn := nx_r (i := a) O h0
    unfold ntk at e ⊢
    have hk := ki_r O hn.1 (by omega)
    have hs := si_r O hn.1 (by omega)
    rw [k_Mo_goes_49]
    by_cases z : nx B a = st
    · rw [if_neg (fun y => y.1 z)] at e
      rw [if_pos z, if_neg (fun y => y.1 z), m_next H O hn.1 hn.2, Option.bind_some]
      exact ih (nx B a) hn.1 hn.2 e
    · rw [if_neg z, H.now, Option.bind_some, H.rk O hn.1 (by omega), Option.bind_some, Option.bind_some, H.rs O hn.1 (by omega), Option.bind_some, m_takesOne hk.1 hk.2, Option.bind_some]
      show (if bI (B.tk (nx B a)) = 0 then _ else _) = _
      cases ht : B.tk (nx B a) with
      | false =>
        rw [ht, if_neg (fun y => by cases y.2)] at e
        rw [if_pos (show bI false = 0 from rfl), if_neg (fun y => by cases y.2)]
        show (cal (d + 1) m_Mo_next [(107, (q : Int)), (0, nx B a)] h).bind _ = _
        rw [m_next H O hn.1 hn.2, Option.bind_some]
        exact ih (nx B a) hn.1 hn.2 e
      | true =>
        have := tk_lt ht
        rw [if_neg (by decide), if_pos ⟨z, rfl⟩]
        show (rdr 7 h (q : Int) 0).bind _ = _
        rw [H.now, Option.bind_some]
        show (rda 20 h ((q + 1 : Nat) : Int) (a_add 15 (nx B a))).bind _ = _
        rw [H.rs O hn.1 (by omega), Option.bind_some, add_id (x := B.si (nx B a)) (by omega) (by omega)]
        show (wra 20 h ((q + 1 : Nat) : Int) (a_add 15 (nx B a)) (B.si (nx B a) + 1)).bind _ = _
        rw [H.ws O hn.1 (by omega), Option.bind_some]
end MGO
