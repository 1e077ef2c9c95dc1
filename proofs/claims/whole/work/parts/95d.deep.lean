/-! deep: the model. -/
noncomputable def pin (Z : Nat → Bk) (y : Int) (c : Nat) : Bool := decide ((c : Int) ≠ y ∧ su Z 5 (c : Int) y 0 ≠ -1)
noncomputable def gin (p : Nat → Bool) (c : Nat) (x : Int) : Int := if p c = true then a_or x (a_shl 1 (c : Int)) else a_or x 0
noncomputable def En (e : Bk → Nat → Int) (Z : Nat → Bk) (y : Int) (k : Nat) : Int := if su Z 5 ((k / 4 : Nat) : Int) y 0 = -1 then 0 else e (Z (k / 4)) (k % 4)
theorem su_0 {Z : Nat → Bk} : ∀ (f : Nat) (a y k : Int), 0 ≤ k → su Z f a y k = -1 ∨ k ≤ su Z f a y k := by
  intro f
  induction f with
  | zero => intro a y k _; exact Or.inl rfl
  | succ f ih =>
    intro a y k h
    show (if a = -1 then (-1 : Int) else if a = y then k else su Z f (Z a.toNat).n y (k + 1)) = -1 ∨ k ≤ (if a = -1 then (-1 : Int) else if a = y then k else su Z f (Z a.toNat).n y (k + 1))
    by_cases z : a = -1
    · rw [if_pos z]; exact Or.inl rfl
    · rw [if_neg z]
      by_cases w : a = y
      · rw [if_pos w]; exact Or.inr (by omega)
      · rw [if_neg w]
        rcases ih (Z a.toNat).n y (k + 1) (by omega) with q | q
        · exact Or.inl q
        · exact Or.inr (by omega)
theorem su_self {Z : Nat → Bk} {a : Int} (h : 0 ≤ a) : su Z 5 a a 0 = 0 := by
  show (if a = -1 then (-1 : Int) else if a = a then 0 else _) = 0
  rw [if_neg (by omega), if_pos rfl]
theorem su_pos {Z : Nat → Bk} {a y : Int} (h : 0 ≤ a) : 0 < su Z 5 a y 0 ↔ (a ≠ y ∧ su Z 5 a y 0 ≠ -1) := by
  show 0 < (if a = -1 then (-1 : Int) else if a = y then 0 else su Z 4 (Z a.toNat).n y (0 + 1)) ↔ (a ≠ y ∧ (if a = -1 then (-1 : Int) else if a = y then 0 else su Z 4 (Z a.toNat).n y (0 + 1)) ≠ -1)
  rw [if_neg (by omega)]
  by_cases w : a = y
  · rw [if_pos w]; exact ⟨fun q => by omega, fun q => absurd w q.1⟩
  · rw [if_neg w]
    rcases su_0 (Z := Z) 4 (Z a.toNat).n y (0 + 1) (by omega) with q | q
    · rw [q]; exact ⟨fun q => by omega, fun q => absurd rfl q.2⟩
    · exact ⟨fun _ => ⟨w, by omega⟩, fun _ => by omega⟩
section MD
variable {Z : Nat → Bk} {d : Nat} {h : AH} {hd ro ho wh tg li : List Int} {y : Int}
theorem m_bi4 (M : ML h hd ro ho wh tg li) (R : ZR Z ro ho wh tg li) (m : ZM Z) (y0 : 0 ≤ y) : ∀ (k c : Nat) (x : Int), c + k = 5 → run (d + 2) m_Mo_boxesIn 4 [(107, 108), (0, y), (0, x), (0, (c : Int))] [] h = some (cf (gin (pin Z y)) k c x, h) := by
  intro k
  induction k with
  | zero => intro c x ck; rw [k_Mo_boxesIn_4, if_neg (by omega)]; rfl
  | succ k ih =>
    intro c x ck
    have w := m_isWithin (d := d) (a := (c : Int)) M R m y0 (by omega)
    rw [k_Mo_boxesIn_4, if_pos (by omega), add_id (x := (c : Int)) (by omega) (by omega), show (c : Int) + 1 = ((c + 1 : Nat) : Int) by omega]
    show _ = some (cf (gin (pin Z y)) k (c + 1) (gin (pin Z y) c x), h)
    by_cases z : (c : Int) = y
    · have e : gin (pin Z y) c x = a_or x 0 := if_neg (by unfold pin; rw [decide_eq_true_eq]; exact fun q => q.1 z)
      rw [if_pos z, e]
      exact ih (c + 1) _ (by omega)
    · rw [if_neg z, w, Option.bind_some]
      by_cases q : su Z 5 (c : Int) y 0 = -1
      · have e : gin (pin Z y) c x = a_or x 0 := if_neg (by unfold pin; rw [decide_eq_true_eq]; exact fun t => t.2 q)
        rw [if_pos q, e]
        show (if (0 : Int) = 0 then _ else _) = _
        rw [if_pos rfl]
        exact ih (c + 1) _ (by omega)
      · have e : gin (pin Z y) c x = a_or x (a_shl 1 (c : Int)) := if_pos (by unfold pin; rw [decide_eq_true_eq]; exact ⟨z, q⟩)
        rw [if_neg q, e]
        show (if (1 : Int) = 0 then _ else _) = _
        rw [if_neg (by decide)]
        exact ih (c + 1) _ (by omega)
theorem m_boxesIn (M : ML h hd ro ho wh tg li) (R : ZR Z ro ho wh tg li) (m : ZM Z) (y0 : 0 ≤ y) : cal (d + 2) m_Mo_boxesIn [(107, 108), (0, y)] h = some (cf (gin (pin Z y)) 5 0 0, h) := by
  rw [k_Mo_boxesIn]; exact m_bi4 M R m y0 5 0 0 (by omega)
theorem m_dp15 (M : ML h hd ro ho wh tg li) (R : ZR Z ro ho wh tg li) (m : ZM Z) (y0 : 0 ≤ y) {x c : Int} {r : AR} : ∀ (f : Nat) (a k : Int), (a = -1 ∨ (0 ≤ a ∧ a < 5)) → 0 ≤ k → k + (f : Int) ≤ 5 → up Z f a = -1 → (∀ v w : AV, run (d + 1) m_Mo_depth 4 [(107, 108), (0, y), (0, if su Z f a y k = -1 then x else if x < su Z f a y k then su Z f a y k else x), (0, a_add c 1), v, w] [] h = r) → run (d + 1) m_Mo_depth 15 [(107, 108), (0, y), (0, x), (0, c), (0, k), (0, a)] [] h = r := by
  intro f
  induction f with
  | zero =>
    intro a k ha k0 kf u K
    have u : a = -1 := u
    have K := K (0, k) (0, a)
    rw [k_Mo_depth_15, if_pos u, if_neg (by omega)]
    exact K
  | succ f ih =>
    intro a k ha k0 kf u K
    unfold up at u
    have e : su Z (f + 1) a y k = (if a = -1 then (-1 : Int) else if a = y then k else su Z f (Z a.toNat).n y (k + 1)) := rfl
    rw [e] at K
    rw [k_Mo_depth_15]
    by_cases z : a = -1
    · rw [if_pos z, if_pos rfl] at K
      rw [if_pos z, if_neg (by omega)]
      exact K _ _
    · rw [if_neg z] at u K ⊢
      by_cases w : a = y
      · rw [if_pos w, if_neg (show ¬ k = -1 by omega)] at K
        rw [if_pos w, if_pos w]
        by_cases q : x < k
        · rw [if_pos q] at K ⊢; exact K _ _
        · rw [if_neg q] at K ⊢; exact K _ _
      · have a5 : a.toNat < 5 := by omega
        have rl := M.rL (i := a) (by omega) (by omega)
        rw [(R a.toNat a5).2.2.1] at rl
        rw [if_neg w] at K ⊢
        rw [M.a28, Option.bind_some, rl, Option.bind_some, add_id (by omega) (by omega)]
        exact ih _ _ (m.1 a.toNat a5).2.2.2.2.2.2.2 (by omega) (by omega) u K
theorem m_depth (M : ML h hd ro ho wh tg li) (R : ZR Z ro ho wh tg li) (m : ZM Z) (y0 : 0 ≤ y) : cal (d + 1) m_Mo_depth [(107, 108), (0, y)] h = some (cf (gq Z y 4) 5 0 0, h) := by
  have L : ∀ (k c : Nat) (x : Int) (v w : AV), c + k = 5 → run (d + 1) m_Mo_depth 4 [(107, 108), (0, y), (0, x), (0, (c : Int)), v, w] [] h = some (cf (gq Z y 4) k c x, h) := by
    intro k
    induction k with
    | zero => intro c x v w ck; rw [k_Mo_depth_4, if_neg (by omega)]; rfl
    | succ k ih =>
      intro c x v w ck
      rw [k_Mo_depth_4, if_pos (by omega)]
      refine m_dp15 M R m y0 5 (c : Int) 0 (by omega) (by omega) (by omega) (up5 m (by omega)) (fun v w => ?_)
      rw [add_id (x := (c : Int)) (by omega) (by omega), show (c : Int) + 1 = ((c + 1 : Nat) : Int) by omega]
      exact ih (c + 1) _ _ _ (by omega)
  rw [k_Mo_depth]
  exact L 5 0 0 _ _ (by omega)
theorem m_de59 {q S : Int} (M : ML h hd ro ho wh tg li) (R : ZR Z ro ho wh tg li) (m : ZM Z) (HS : ∀ b : Nat, b < 5 → (a_and (a_shr S (b : Int)) 1 = 1 ↔ su Z 5 (b : Int) y 0 ≠ -1)) : ∀ (k c : Nat) (x4 x5 x6 : Int) (v : AV), c + k = 20 → 0 ≤ x4 → x4 ≤ (c : Int) → -9999 * (c : Int) ≤ x5 → x5 ≤ 9999 * (c : Int) → ∃ v' : AV, run (d + 1) m_Mo_deep 59 [(107, 108), (0, y), (0, q), (0, S), (0, x4), (0, x5), (0, x6), (0, (c : Int)), v] [] h = run (d + 1) m_Mo_deep 59 [(107, 108), (0, y), (0, q), (0, S), (0, acS (En eN Z y) k c x4), (0, acS (En eV Z y) k c x5), (0, acO (En eB Z y) k c x6), (0, 20), v'] [] h := by
  intro k
  induction k with
  | zero => intro c x4 x5 x6 v ck a1 a2 b1 b2; exact ⟨v, by rw [show (c : Int) = 20 by omega]; rfl⟩
  | succ k ih =>
    intro c x4 x5 x6 v ck a1 a2 b1 b2
    have cb : c / 4 < 5 := by omega
    have hb := HS (c / 4) cb
    have mb := m.1 (c / 4) cb
    have Rb := R (c / 4) cb
    have b3 := eN_b (Z (c / 4)) (c % 4)
    have b4 := m.vb cb (c % 4)
    have ND : a_div (c : Int) 4 = ((c / 4 : Nat) : Int) := by rw [div_id ⟨by omega, by omega⟩ ⟨by omega, by omega⟩ (by omega) (by omega)]; omega
    have NR : a_rem (c : Int) 4 = ((c % 4 : Nat) : Int) := by rw [rem_id ⟨by omega, by omega⟩ ⟨by omega, by omega⟩ (by omega) (by omega)]; omega
    have N1 : a_add (c : Int) 1 = ((c + 1 : Nat) : Int) := by rw [add_id (by omega) (by omega)]; omega
    -- a place that counts for nothing
    have NO : En eN Z y c = 0 → En eV Z y c = 0 → En eB Z y c = 0 → ∃ v' : AV, run (d + 1) m_Mo_deep 98 [(107, 108), (0, y), (0, q), (0, S), (0, x4), (0, x5), (0, x6), (0, (c : Int)), v] [] h = run (d + 1) m_Mo_deep 59 [(107, 108), (0, y), (0, q), (0, S), (0, acS (En eN Z y) (k + 1) c x4), (0, acS (En eV Z y) (k + 1) c x5), (0, acO (En eB Z y) (k + 1) c x6), (0, 20), v'] [] h := by
      intro z1 z2 z3
      obtain ⟨v', e⟩ := ih (c + 1) (x4 + 0) (x5 + 0) (a_or x6 0) (0, 0) (by omega) (by omega) (by omega) (by omega) (by omega)
      refine ⟨v', ?_⟩
      show _ = run (d + 1) m_Mo_deep 59 [(107, 108), (0, y), (0, q), (0, S), (0, acS (En eN Z y) k (c + 1) (x4 + En eN Z y c)), (0, acS (En eV Z y) k (c + 1) (x5 + En eV Z y c)), (0, acO (En eB Z y) k (c + 1) (a_or x6 (En eB Z y c))), (0, 20), v'] [] h
      rw [z1, z2, z3, k_Mo_deep_98, k_Mo_deep_123, if_pos rfl, k_Mo_deep_154, if_pos rfl, N1, add_id (by omega) (by omega), add_id (by omega) (by omega)]
      exact e
    rw [k_Mo_deep_59, if_pos (by omega), ND, NR]
    by_cases w : su Z 5 ((c / 4 : Nat) : Int) y 0 = -1
    · rw [if_neg (fun z => hb.1 z w)]
      exact NO (if_pos w) (if_pos w) (if_pos w)
    · rw [if_pos (hb.2 w)]
      have rH := M.rH (i := ((c / 4 : Nat) : Int)) (by omega) (by omega)
      rw [Int.toNat_natCast, Rb.2.1] at rH
      rw [M.a25, Option.bind_some, rH, Option.bind_some]
      have ee : ∀ e : Bk → Nat → Int, En e Z y c = e (Z (c / 4)) (c % 4) := fun e => if_neg w
      by_cases s : ((c % 4 : Nat) : Int) < (Z (c / 4)).s
      · have rW := M.rW (i := (c : Int)) (by omega) (by omega)
        have rT := M.rT (i := (c : Int)) (by omega) (by omega)
        have r := Rb.2.2.2 (c % 4) s
        rw [show 4 * (c / 4) + c % 4 = c by omega] at r
        rw [Int.toNat_natCast, r.1] at rW
        rw [Int.toNat_natCast, r.2] at rT
        rw [if_pos s, M.a26, Option.bind_some, rW, Option.bind_some]
        obtain ⟨v', e⟩ := ih (c + 1) (x4 + eN (Z (c / 4)) (c % 4)) (x5 + eV (Z (c / 4)) (c % 4)) (a_or x6 (eB (Z (c / 4)) (c % 4))) (0, 1) (by omega) (by omega) (by omega) (by omega) (by omega)
        refine ⟨v', ?_⟩
        show _ = run (d + 1) m_Mo_deep 59 [(107, 108), (0, y), (0, q), (0, S), (0, acS (En eN Z y) k (c + 1) (x4 + En eN Z y c)), (0, acS (En eV Z y) k (c + 1) (x5 + En eV Z y c)), (0, acO (En eB Z y) k (c + 1) (a_or x6 (En eB Z y c))), (0, 20), v'] [] h
        rw [ee, ee, ee]
        refine Eq.trans ?_ e
        by_cases w0 : (Z (c / 4)).w.getD (c % 4) 0 = 0
        · have e1 : eN (Z (c / 4)) (c % 4) = 1 := if_pos ⟨s, w0⟩
          have e2 : eV (Z (c / 4)) (c % 4) = (Z (c / 4)).v.getD (c % 4) 0 := if_pos ⟨s, w0⟩
          have e3 : eB (Z (c / 4)) (c % 4) = 0 := if_neg (fun t => by omega)
          rw [if_pos w0, k_Mo_deep_123, if_neg (by decide), M.a26, Option.bind_some, rW, Option.bind_some, if_pos w0, M.a27, Option.bind_some, rT, Option.bind_some, k_Mo_deep_154, if_neg (by decide), M.a26, Option.bind_some, rW, Option.bind_some, if_neg (by omega), N1, e1, ← e2, e3, add_id (by omega) (by omega), add_id (by omega) (by omega)]
        · have e1 : eN (Z (c / 4)) (c % 4) = 0 := if_neg (fun t => w0 t.2)
          have e2 : eV (Z (c / 4)) (c % 4) = 0 := if_neg (fun t => w0 t.2)
          rw [if_neg w0, k_Mo_deep_123, if_neg (by decide), M.a26, Option.bind_some, rW, Option.bind_some, if_neg w0, k_Mo_deep_154, if_neg (by decide), M.a26, Option.bind_some, rW, Option.bind_some, N1, e1, e2, add_id (by omega) (by omega), add_id (by omega) (by omega)]
          by_cases w1 : (Z (c / 4)).w.getD (c % 4) 0 = 1
          · have e3 : eB (Z (c / 4)) (c % 4) = a_shl 1 ((Z (c / 4)).v.getD (c % 4) 0) := if_pos ⟨s, w1⟩
            rw [if_pos w1, M.a27, Option.bind_some, rT, Option.bind_some, e3]
          · have e3 : eB (Z (c / 4)) (c % 4) = 0 := if_neg (fun t => w1 t.2)
            rw [if_neg w1, e3]
      · have z := e_z (Z (c / 4)) (j := c % 4) (by omega)
        rw [if_neg s]
        exact NO ((ee eN).trans z.1) ((ee eV).trans z.2.1) ((ee eB).trans z.2.2)
end MD
