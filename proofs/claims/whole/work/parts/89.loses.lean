/-! The model's loses. -/
theorem shL_out : ∀ (k n : Nat) (w : List Int) (j : Nat), 1 ≤ n → n - 1 + k ≤ j → (shL k n w).getD j 0 = w.getD j 0 := by
  intro k
  induction k with
  | zero => intro n w j _ _; rfl
  | succ k ih =>
    intro n w j h0 h1
    show (shL k _ _).getD j 0 = _
    rw [ih _ _ _ (by omega) (by omega), gdE, List.getElem?_set_ne (by omega), ← gdE]
def lmF (x : Int) : Nat → Nat → List Int → List Int
  | 0, _, l => l
  | k + 1, c, l => lmF x k (c + 1) (l.set c (if l.getD c 0 = x then -1 else l.getD c 0))
theorem lmF_lo {x : Int} : ∀ (k c : Nat) (l : List Int) (j : Nat), j < c → (lmF x k c l).getD j 0 = l.getD j 0 := by
  intro k
  induction k with
  | zero => intro c l j _; rfl
  | succ k ih =>
    intro c l j h
    show (lmF x k _ _).getD j 0 = _
    rw [ih _ _ _ (by omega), gdE, List.getElem?_set_ne (by omega), ← gdE]
theorem lmF_in {x : Int} : ∀ (k c : Nat) (l : List Int) (j : Nat), c ≤ j → j < c + k → c + k ≤ l.length → (lmF x k c l).getD j 0 = if l.getD j 0 = x then -1 else l.getD j 0 := by
  intro k
  induction k with
  | zero => intro c l j h1 h2; omega
  | succ k ih =>
    intro c l j h1 h2 h3
    show (lmF x k _ _).getD j 0 = _
    by_cases e : j = c
    · subst e; rw [lmF_lo _ _ _ _ (by omega), gds (by omega), if_pos rfl]
    · have q : (l.set c (if l.getD c 0 = x then -1 else l.getD c 0)).getD j 0 = l.getD j 0 := by rw [gds (by omega), if_neg (show ¬ c = j by omega)]
      rw [ih _ _ _ (by omega) (by omega) (by rw [List.length_set]; omega), q]
section LOSES
variable {d x : Nat} {hd : List Int}
theorem m_lo135 (hx : x < 5) {x2 : Int} {v : AV} : ∀ (k c : Nat) (h : AH) (ro ho wh tg li : List Int), c + k = 5 → ML h hd ro ho wh tg li → ∃ h' : AH, run (d + 1) m_Mo_loses 135 [(107, 108), (0, (x : Int)), (0, x2), (0, (c : Int)), v] [] h = some (0, h') ∧ ML h' hd (ro.set x (-1)) (ho.set x 0) wh tg (lmF (x : Int) k c li) ∧ Fr YB h h' := by
  intro k
  induction k with
  | zero =>
    intro c h ro ho wh tg li ck M
    obtain ⟨h1, a1, M1, T1⟩ := M.wH (i := (x : Int)) (by omega) (by omega) 0
    obtain ⟨h2, a2, M2, T2⟩ := M1.wR (i := (x : Int)) (by omega) (by omega) (-1)
    rw [Int.toNat_natCast] at M1 M2
    refine ⟨h2, ?_, M2, T1.tr T2⟩
    rw [k_Mo_loses_135, if_neg (by omega)]
    simp only [M.a25, a1, M1.a24, a2, Option.bind_some]
  | succ k ih =>
    intro c h ro ho wh tg li ck M
    have r1 := M.rL (i := (c : Int)) (by omega) (by omega)
    rw [Int.toNat_natCast] at r1
    obtain ⟨h1, a1, M1, T1⟩ := M.wL (i := (c : Int)) (by omega) (by omega) (if li.getD c 0 = (x : Int) then -1 else li.getD c 0)
    rw [Int.toNat_natCast] at M1
    obtain ⟨h', b1, b2, b3⟩ := ih (c + 1) h1 _ _ _ _ _ (by omega) M1
    refine ⟨h', ?_, b2, T1.tr b3⟩
    rw [k_Mo_loses_135, if_pos (by omega)]
    simp only [M.a28, r1, Option.bind_some]
    rw [add_id (by omega) (by omega), show (c : Int) + 1 = ((c + 1 : Nat) : Int) by omega]
    by_cases z : li.getD c 0 = (x : Int)
    · rw [if_pos z] at a1 ⊢
      rw [a1, Option.bind_some]
      exact b1
    · rw [if_neg z] at a1 ⊢
      rw [a1, Option.bind_some]
      exact b1
theorem m_lo61 (hx : x < 5) {f : Nat} (hf : f < 5) {x3 : Int} : ∀ (k c : Nat) (h : AH) (ro ho wh tg li : List Int), (c : Int) + (k : Int) = ho.getD f 0 → ho.getD f 0 ≤ 3 → ML h hd ro ho wh tg li → ∃ h' : AH, run (d + 1) m_Mo_loses 61 [(107, 108), (0, (x : Int)), (0, (f : Int)), (0, x3), (0, (c : Int))] [] h = some (0, h') ∧ ML h' hd (ro.set x (-1)) (ho.set x 0) (shL k (4 * f + c + 1) wh) (shL k (4 * f + c + 1) tg) (lmF (x : Int) 5 0 (li.set x (-1))) ∧ Fr YB h h' := by
  intro k
  induction k with
  | zero =>
    intro c h ro ho wh tg li ck h3 M
    have rh := M.rH (i := (f : Int)) (by omega) (by omega)
    rw [Int.toNat_natCast] at rh
    obtain ⟨h1, a1, M1, T1⟩ := M.wL (i := (x : Int)) (by omega) (by omega) (-1)
    rw [Int.toNat_natCast] at M1
    obtain ⟨h', b1, b2, b3⟩ := m_lo135 (d := d) (x2 := (f : Int)) (v := (0, (c : Int))) hx 5 0 h1 _ _ _ _ _ (by omega) M1
    refine ⟨h', ?_, b2, T1.tr b3⟩
    rw [k_Mo_loses_61]
    simp only [M.a25, rh, M.a28, a1, Option.bind_some]
    rw [if_neg (by omega)]
    exact b1
  | succ k ih =>
    intro c h ro ho wh tg li ck h3 M
    have rh := M.rH (i := (f : Int)) (by omega) (by omega)
    rw [Int.toNat_natCast] at rh
    have r1 := M.rW (i := 4 * (f : Int) + (c : Int) + 1) (by omega) (by omega)
    obtain ⟨h1, a1, M1, T1⟩ := M.wW (i := 4 * (f : Int) + (c : Int)) (by omega) (by omega) (wh.getD (4 * (f : Int) + (c : Int) + 1).toNat 0)
    have r2 := M1.rT (i := 4 * (f : Int) + (c : Int) + 1) (by omega) (by omega)
    obtain ⟨h2, a2, M2, T2⟩ := M1.wT (i := 4 * (f : Int) + (c : Int)) (by omega) (by omega) (tg.getD (4 * (f : Int) + (c : Int) + 1).toNat 0)
    have M3 := M2
    rw [show (4 * (f : Int) + (c : Int)).toNat = 4 * f + c + 1 - 1 by omega, show (4 * (f : Int) + (c : Int) + 1).toNat = 4 * f + c + 1 by omega] at M3
    obtain ⟨h', b1, b2, b3⟩ := ih (c + 1) h2 _ _ _ _ _ (by omega) h3 M3
    refine ⟨h', ?_, b2, (T1.tr T2).tr b3⟩
    rw [k_Mo_loses_61]
    simp only [M.a25, rh, M.a26, Option.bind_some]
    rw [if_pos (by omega), mul_id (by omega) (by omega), add_id (x := 4 * (f : Int)) (by omega) (by omega), add_id (x := 4 * (f : Int) + (c : Int)) (by omega) (by omega), r1, Option.bind_some, a1]
    simp only [M1.a27, r2, Option.bind_some]
    rw [a2, Option.bind_some, add_id (by omega) (by omega), show (c : Int) + 1 = ((c + 1 : Nat) : Int) by omega]
    exact b1
theorem m_lo14 (hx : x < 5) {f k0 : Nat} (hf : f < 5) {h : AH} {ro ho wh tg li : List Int} {v : AV} (M : ML h hd ro ho wh tg li) (hk : k0 < 4) (h1 : wh.getD (4 * f + k0) 0 = 2) (h2 : tg.getD (4 * f + k0) 0 = (x : Int)) (s1 : (k0 : Int) < ho.getD f 0) (s4 : ho.getD f 0 ≤ 4) : ∀ (k c : Nat), c + k = k0 → (∀ j, c ≤ j → j < k0 → ¬ (wh.getD (4 * f + j) 0 = 2 ∧ tg.getD (4 * f + j) 0 = (x : Int))) → ∃ h' : AH, run (d + 1) m_Mo_loses 14 [(107, 108), (0, (x : Int)), (0, (f : Int)), (0, (c : Int)), v] [] h = some (0, h') ∧ ML h' hd (ro.set x (-1)) ((ho.set f (ho.getD f 0 - 1)).set x 0) (shL (ho.getD f 0 - 1 - (k0 : Int)).toNat (4 * f + k0 + 1) wh) (shL (ho.getD f 0 - 1 - (k0 : Int)).toNat (4 * f + k0 + 1) tg) (lmF (x : Int) 5 0 (li.set x (-1))) ∧ Fr YB h h' := by
  have lh : ho.length = 5 := M.c.2.2.2.2.2.2.1
  intro k
  induction k with
  | zero =>
    intro c ck _
    have rh := M.rH (i := (f : Int)) (by omega) (by omega)
    have r1 := M.rW (i := 4 * (f : Int) + (c : Int)) (by omega) (by omega)
    have r2 := M.rT (i := 4 * (f : Int) + (c : Int)) (by omega) (by omega)
    obtain ⟨h1', a1, M1, T1⟩ := M.wH (i := (f : Int)) (by omega) (by omega) (ho.getD f 0 - 1)
    rw [Int.toNat_natCast] at rh M1
    rw [show (4 * (f : Int) + (c : Int)).toNat = 4 * f + k0 by omega] at r1 r2
    have e9 : (ho.set f (ho.getD f 0 - 1)).getD f 0 = ho.getD f 0 - 1 := by rw [gds (by omega), if_pos rfl]
    obtain ⟨h', b1, b2, b3⟩ := m_lo61 (d := d) (x3 := (c : Int)) hx hf (ho.getD f 0 - 1 - (k0 : Int)).toNat k0 h1' _ _ _ _ _ (by rw [e9]; omega) (by rw [e9]; omega) M1
    refine ⟨h', ?_, b2, T1.tr b3⟩
    rw [k_Mo_loses_14]
    simp only [M.a26, M.a27, M.a25, rh, Option.bind_some]
    rw [mul_id (by omega) (by omega), add_id (x := 4 * (f : Int)) (by omega) (by omega), r1, Option.bind_some, if_pos h1, r2, Option.bind_some, if_pos h2, sub_id (by omega) (by omega), a1, Option.bind_some]
    rw [show (c : Int) = (k0 : Int) by omega] at b1 ⊢
    exact b1
  | succ k ih =>
    intro c ck no
    have r1 := M.rW (i := 4 * (f : Int) + (c : Int)) (by omega) (by omega)
    have r2 := M.rT (i := 4 * (f : Int) + (c : Int)) (by omega) (by omega)
    rw [show (4 * (f : Int) + (c : Int)).toNat = 4 * f + c by omega] at r1 r2
    obtain ⟨h', b1, b2⟩ := ih (c + 1) (by omega) (fun j j0 j1 => no j (by omega) j1)
    refine ⟨h', ?_, b2⟩
    have nc := no c (by omega) (by omega)
    rw [k_Mo_loses_14]
    simp only [M.a26, M.a27, Option.bind_some]
    rw [mul_id (by omega) (by omega), add_id (x := 4 * (f : Int)) (by omega) (by omega), r1, Option.bind_some, r2, Option.bind_some, add_id (by omega) (by omega), show (c : Int) + 1 = ((c + 1 : Nat) : Int) by omega]
    by_cases z : wh.getD (4 * f + c) 0 = 2
    · rw [if_pos z, if_neg (fun y => nc ⟨z, y⟩)]; exact b1
    · rw [if_neg z]; exact b1
/-- without an entry of x nothing is pulled -/
theorem Pull.non {w v w' v' : List Int} {s s' y : Int} (p : Pull w v s y w' v' s') (no : ∀ k : Nat, (k : Int) < s → ¬ (w.getD k 0 = 2 ∧ v.getD k 0 = y)) : s' = s ∧ ∀ k : Nat, (k : Int) < s → w'.getD k 0 = w.getD k 0 ∧ v'.getD k 0 = v.getD k 0 := by
  rcases p with ⟨a, b, c⟩ | ⟨k0, a1, a2, a3, -⟩
  · exact ⟨b, c⟩
  · exact absurd ⟨a2, a3⟩ (no k0 a1)
theorem m_loses {Z : Nat → Bk} {h : AH} {ro ho wh tg li : List Int} (hx : x < 5) (M : ML h hd ro ho wh tg li) (m : ZM Z) (R : ZR Z ro ho wh tg li) : ∃ (h' : AH) (ro' ho' wh' tg' li' : List Int), cal (d + 1) m_Mo_loses [(107, 108), (0, (x : Int))] h = some (0, h') ∧ ML h' hd ro' ho' wh' tg' li' ∧ Fr YB h h' ∧ ∀ Y : Nat → Bk, Rem Z x Y → ZR Y ro' ho' wh' tg' li' := by
  obtain ⟨l1, l2, l3, l4, l5⟩ := M.c.2.2.2.2.2
  have rx := M.rL (i := (x : Int)) (by omega) (by omega)
  rw [Int.toNat_natCast, (R x hx).2.2.1] at rx
  have nr := (m.1 x hx).2.2.2.2.2.2.2
  have ent : ∀ i, i < 5 → ∀ k : Nat, (k : Int) < (Z i).s → (Z i).w.getD k 0 = 2 ∧ (Z i).v.getD k 0 = (x : Int) → (Z x).n = (i : Int) := by
    intro i hi k hk q
    rcases m.2.1 i hi k hk with a | a | a
    · omega
    · omega
    · have := a.2.2.2
      rw [q.2, Int.toNat_natCast] at this
      exact this
  have lie : ∀ i, i < 5 → (lmF (x : Int) 5 0 (li.set x (-1))).getD i 0 = if i = x then -1 else (if (Z i).n = (x : Int) then -1 else (Z i).n) := by
    intro i hi
    rw [lmF_in 5 0 _ i (by omega) (by omega) (by rw [List.length_set]; omega)]
    by_cases e : i = x
    · subst e
      have q : (li.set i (-1)).getD i 0 = -1 := by rw [gds (by omega), if_pos rfl]
      rw [q, if_pos rfl, if_neg (show ¬ (-1 : Int) = (i : Int) by omega)]
    · have q : (li.set x (-1)).getD i 0 = (Z i).n := by rw [gds (by omega), if_neg (show ¬ x = i from fun z => e z.symm), (R i hi).2.2.1]
      rw [q, if_neg e]
  have ror : ∀ i, i < 5 → (ro.set x (-1)).getD i 0 = if i = x then -1 else ro.getD i 0 := by
    intro i hi
    rw [gds (by omega)]
    by_cases e : i = x
    · rw [if_pos e.symm, if_pos e]
    · rw [if_neg (show ¬ x = i from fun z => e z.symm), if_neg e]
  by_cases z : (Z x).n = -1
  · obtain ⟨h1, a1, M1, T1⟩ := M.wL (i := (x : Int)) (by omega) (by omega) (-1)
    rw [Int.toNat_natCast] at M1
    obtain ⟨h', b1, b2, b3⟩ := m_lo135 (d := d) (x2 := (Z x).n) (v := (9, 0)) hx 5 0 h1 _ _ _ _ _ (by omega) M1
    refine ⟨h', _, _, _, _, _, ?_, b2, T1.tr b3, fun Y rem => ?_⟩
    · rw [k_Mo_loses, M.a28, Option.bind_some, rx, Option.bind_some, if_pos z, Option.bind_some, a1, Option.bind_some]
      exact b1
    · obtain ⟨r1, r2, r3, r4, r5, r6⟩ := rem
      intro i hi
      rw [lie i hi, ror i hi, gds (by omega)]
      by_cases e : i = x
      · subst e
        rw [if_pos rfl, if_pos rfl, if_pos rfl, r1, r2, r3, if_neg (by omega)]
        exact ⟨rfl, rfl, rfl, fun k hk => by omega⟩
      · rw [if_neg e, if_neg e, if_neg (show ¬ x = i from fun y => e y.symm)]
        obtain ⟨q1, q2, q3, q4, q5, q6⟩ := r6 i hi e
        obtain ⟨p1, p2⟩ := q6.non (fun k hk q => by have := ent i hi k hk q; omega)
        rw [q1, q2, q3, p1]
        refine ⟨(R i hi).1, (R i hi).2.1, rfl, fun k hk => ?_⟩
        rw [(p2 k hk).1, (p2 k hk).2]
        exact (R i hi).2.2.2 k hk
  · obtain ⟨f, hf⟩ : ∃ f : Nat, (Z x).n = (f : Int) := ⟨(Z x).n.toNat, by omega⟩
    have f5 : f < 5 := by omega
    obtain ⟨k0, c1, c2, c3⟩ := m.2.2.1 x hx z
    rw [hf, Int.toNat_natCast] at c1 c2 c3
    have mf := m.1 f f5
    have Rf := R f f5
    have e1 := Rf.2.2.2 k0 c1
    obtain ⟨h', b1, b2, b3⟩ := m_lo14 (d := d) (v := (9, 0)) hx f5 M (k0 := k0) (by omega) (by rw [e1.1]; exact c2) (by rw [e1.2]; exact c3) (by rw [Rf.2.1]; exact c1) (by rw [Rf.2.1]; omega) k0 0 (by omega) (fun j _ j1 q => by
      have e2 := Rf.2.2.2 j (by omega)
      rw [e2.1, e2.2] at q
      have := m.2.2.2.1 f f5 j k0 (by omega) c1 q.1 c2 (q.2.trans c3.symm)
      omega)
    refine ⟨h', _, _, _, _, _, ?_, b2, b3, fun Y rem => ?_⟩
    · rw [k_Mo_loses, M.a28, Option.bind_some, rx, Option.bind_some, if_neg z, hf]
      exact b1
    · obtain ⟨r1, r2, r3, r4, r5, r6⟩ := rem
      intro i hi
      rw [lie i hi, ror i hi, gds (by rw [List.length_set]; omega), gds (by omega), Rf.2.1]
      by_cases e : i = x
      · subst e
        rw [if_pos rfl, if_pos rfl, if_pos rfl, r1, r2, r3, if_neg (by omega)]
        exact ⟨rfl, rfl, rfl, fun k hk => by omega⟩
      · rw [if_neg e, if_neg e, if_neg (show ¬ x = i from fun y => e y.symm)]
        obtain ⟨q1, q2, q3, q4, q5, q6⟩ := r6 i hi e
        by_cases y : i = f
        · subst y
          rw [if_pos rfl, q1, q2, q3]
          rcases q6 with ⟨a, -⟩ | ⟨k1, a1, a2, a3, a4, a5, a6⟩
          · exact absurd ⟨c2, c3⟩ (a k0 c1)
          · have ek : k1 = k0 := m.2.2.2.1 i hi k1 k0 a1 c1 a2 c2 (a3.trans c3.symm)
            subst ek
            rw [a4]
            refine ⟨(R i hi).1, rfl, rfl, fun k hk => ?_⟩
            by_cases kk : k < k1
            · rw [shL_lo _ _ _ _ (by omega) (by omega), shL_lo _ _ _ _ (by omega) (by omega), (a5 k kk).1, (a5 k kk).2]
              exact (R i hi).2.2.2 k (by omega)
            · rw [shL_hi _ _ _ _ (by omega) (by omega) (by omega) (by omega), shL_hi _ _ _ _ (by omega) (by omega) (by omega) (by omega), (a6 k (by omega) hk).1, (a6 k (by omega) hk).2]
              exact (R i hi).2.2.2 (k + 1) (by omega)
        · rw [if_neg (show ¬ f = i from fun w => y w.symm)]
          obtain ⟨p1, p2⟩ := q6.non (fun k hk q => by have := ent i hi k hk q; omega)
          rw [q1, q2, q3, p1]
          refine ⟨(R i hi).1, (R i hi).2.1, rfl, fun k hk => ?_⟩
          have mi := m.1 i hi
          have o : ∀ l : List Int, (shL ((Z f).s - 1 - (k0 : Int)).toNat (4 * f + k0 + 1) l).getD (4 * i + k) 0 = l.getD (4 * i + k) 0 := by
            intro l
            by_cases lt : i < f
            · exact shL_lo _ _ _ _ (by omega) (by omega)
            · exact shL_out _ _ _ _ (by omega) (by omega)
          rw [o, o, (p2 k hk).1, (p2 k hk).2]
          exact (R i hi).2.2.2 k hk
end LOSES
