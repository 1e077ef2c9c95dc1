/-! alike: the model's loops. -/
section ALM
variable {Z : Nat → Bk} {rk : Nat → Nat} {d : Nat} {hd ro ho wh tg li : List Int} {x1 x2 : Int}
theorem m_al60 {h : AH} {n t : Int} {v6 v7 v8 v9 : AV} : run (d + 1) m_Mo_alike 60 [(107, 108), (0, x1), (0, x2), (0, n), (0, 0), (0, t), v6, v7, v8, v9] [] h = some (0, h) := by
  rw [k_Mo_alike_60]
  split <;> rfl
theorem m_al0 {h : AH} {A B : List Int} {n t : Int} {p : Nat} {q k : Int} {v9 : AV} (H : AL h hd ro ho wh tg li A B) (hp : p < 5) : run (d + 1) m_Mo_alike 116 [(107, 108), (0, x1), (0, x2), (0, n), (0, 0), (0, t), (0, (p : Int)), (0, q), (0, k), v9] [] h = some (0, h) := by
  have rH := H.1.rH (i := (p : Int)) (by omega) (by omega)
  rw [k_Mo_alike_116, H.1.a25, Option.bind_some, rH, Option.bind_some, if_pos rfl, m_al60]
  split <;> rfl
theorem m_al (m : ZM Z) (R : ZR Z ro ho wh tg li) (hrk : ∀ j, j < 5 → (Z j).n ≠ -1 → rk (Z j).n.toNat < rk j) : ∀ (g t n : Nat) (A B : List Int) (h : AH) (v6 v7 v8 v9 : AV), t + g = 6 → QI Z rk A B n t 0 → AL h hd ro ho wh tg li A B → ∃ (b : Int) (h' : AH) (A' B' : List Int), run (d + 1) m_Mo_alike 60 [(107, 108), (0, x1), (0, x2), (0, (n : Int)), (0, 1), (0, (t : Int)), v6, v7, v8, v9] [] h = some (b, h') ∧ AL h' hd ro ho wh tg li A' B' ∧ Fr QB h h' ∧ (b = 0 ∨ b = 1) ∧ (b = 1 ↔ ∀ i, t ≤ i → i < n → Sme Z (A.getD i 0).toNat (B.getD i 0).toNat) := by
  intro g
  induction g with
  | zero =>
    intro t n A B h v6 v7 v8 v9 tg' Q H
    have n5 := Q.n5
    refine ⟨1, h, A, B, ?_, H, Fr.rf, Or.inr rfl, ⟨fun _ i a b => by omega, fun _ => rfl⟩⟩
    rw [k_Mo_alike_60, if_neg (by omega), if_neg (by decide)]
  | succ g ih =>
    intro t n A B h v6 v7 v8 v9 tg' Q H
    have n5 := Q.n5
    by_cases tn : t < n
    rotate_left
    · refine ⟨1, h, A, B, ?_, H, Fr.rf, Or.inr rfl, ⟨fun _ i a b => by omega, fun _ => rfl⟩⟩
      rw [k_Mo_alike_60, if_neg (by omega), if_neg (by decide)]
    have q1 := Q.1 t tn
    obtain ⟨p, pe⟩ : ∃ p : Nat, A.getD t 0 = (p : Int) := ⟨(A.getD t 0).toNat, by omega⟩
    obtain ⟨q, qe⟩ : ∃ q : Nat, B.getD t 0 = (q : Int) := ⟨(B.getD t 0).toNat, by omega⟩
    have hp : p < 5 := by omega
    have hq : q < 5 := by omega
    have mp := m.1 p hp
    have mq := m.1 q hq
    have Rp := R p hp
    have Rq := R q hq
    have rA := H.rA (i := t) (by omega)
    have rB := H.rB (i := t) (by omega)
    rw [pe] at rA
    rw [qe] at rB
    have RH : ∀ (h : AH), ML h hd ro ho wh tg li → rda 20 h 124 (p : Int) = some (Z p).s ∧ rda 20 h 124 (q : Int) = some (Z q).s := by
      intro h M
      have a := M.rH (i := (p : Int)) (by omega) (by omega)
      have b := M.rH (i := (q : Int)) (by omega) (by omega)
      rw [Int.toNat_natCast, Rp.2.1] at a
      rw [Int.toNat_natCast, Rq.2.1] at b
      exact ⟨a, b⟩
    have T1 : a_add (t : Int) 1 = ((t + 1 : Nat) : Int) := by rw [add_id (by omega) (by omega)]; omega
    have here := sme_iff (Z := Z) m (p := p) (q := q) hp
    have spl : (∀ i, t ≤ i → i < n → Sme Z (A.getD i 0).toNat (B.getD i 0).toNat) ↔ Sme Z p q ∧ ∀ i, t + 1 ≤ i → i < n → Sme Z (A.getD i 0).toNat (B.getD i 0).toNat := by
      refine ⟨fun z => ⟨?_, fun i a b => z i (by omega) b⟩, fun z i a b => ?_⟩
      · have := z t (by omega) tn
        rw [pe, qe, Int.toNat_natCast, Int.toNat_natCast] at this
        exact this
      · by_cases e : i = t
        · rw [e, pe, qe, Int.toNat_natCast, Int.toNat_natCast]; exact z.1
        · exact z.2 i (by omega) b
    by_cases se : (Z p).s = (Z q).s
    rotate_left
    · refine ⟨0, h, A, B, ?_, H, Fr.rf, Or.inl rfl, ⟨fun z => by omega, fun z => ?_⟩⟩
      · rw [k_Mo_alike_60, if_pos (by omega), if_neg (by decide)]
        simp only [H.a29, rA, H.a30, rB, H.1.a25, (RH h H.1).1, (RH h H.1).2, Option.bind_some]
        rw [if_neg se]
        exact m_al0 H hp
      · exact absurd (here.1 (spl.1 z).1).1 se
    have INN : ∀ (l k n : Nat) (A B : List Int) (h : AH) (v9 : AV), ((k + l : Nat) : Int) = (Z p).s → t < n → A.getD t 0 = (p : Int) → QI Z rk A B n t k → AL h hd ro ho wh tg li A B → ∃ (b : Int) (h' : AH) (A' B' : List Int), run (d + 1) m_Mo_alike 116 [(107, 108), (0, x1), (0, x2), (0, (n : Int)), (0, 1), (0, (t : Int)), (0, (p : Int)), (0, (q : Int)), (0, (k : Int)), v9] [] h = some (b, h') ∧ AL h' hd ro ho wh tg li A' B' ∧ Fr QB h h' ∧ (b = 0 ∨ b = 1) ∧ (b = 1 ↔ (∀ j : Nat, k ≤ j → (j : Int) < (Z p).s → LoK (Z p) (Z q) (Sme Z) j) ∧ ∀ i, t + 1 ≤ i → i < n → Sme Z (A.getD i 0).toNat (B.getD i 0).toNat) := by
      intro l
      induction l with
      | zero =>
        intro k n A B h v9 kl tn pe Q H
        obtain ⟨b, h', A', B', e1, e2, e3, e4, e5⟩ := ih (t + 1) n A B h (0, (p : Int)) (0, (q : Int)) (0, (k : Int)) v9 (by omega) Q.next H
        refine ⟨b, h', A', B', ?_, e2, e3, e4, e5.trans ⟨fun z => ⟨fun j a b => by omega, z⟩, fun z => z.2⟩⟩
        rw [k_Mo_alike_116, H.1.a25, Option.bind_some, (RH h H.1).1, Option.bind_some, if_neg (by omega), T1]
        exact e1
      | succ l ihl =>
        intro k n A B h v9 kl tn pe Q H
        have n5 := Q.n5
        have ks : (k : Int) < (Z p).s := by omega
        have K1 : a_add (k : Int) 1 = ((k + 1 : Nat) : Int) := by rw [add_id (by omega) (by omega)]; omega
        have NP : a_add (a_mul 4 (p : Int)) (k : Int) = ((4 * p + k : Nat) : Int) := by rw [mul_id (by omega) (by omega), add_id (by omega) (by omega)]; omega
        have NQ : a_add (a_mul 4 (q : Int)) (k : Int) = ((4 * q + k : Nat) : Int) := by rw [mul_id (by omega) (by omega), add_id (by omega) (by omega)]; omega
        have RD : ∀ (h : AH), ML h hd ro ho wh tg li → (rda 20 h 125 ((4 * p + k : Nat) : Int) = some ((Z p).w.getD k 0) ∧ rda 20 h 126 ((4 * p + k : Nat) : Int) = some ((Z p).v.getD k 0)) ∧ (rda 20 h 125 ((4 * q + k : Nat) : Int) = some ((Z q).w.getD k 0) ∧ rda 20 h 126 ((4 * q + k : Nat) : Int) = some ((Z q).v.getD k 0)) := by
          intro h M
          have a1 := M.rW (i := ((4 * p + k : Nat) : Int)) (by omega) (by omega)
          have a2 := M.rT (i := ((4 * p + k : Nat) : Int)) (by omega) (by omega)
          have b1 := M.rW (i := ((4 * q + k : Nat) : Int)) (by omega) (by omega)
          have b2 := M.rT (i := ((4 * q + k : Nat) : Int)) (by omega) (by omega)
          have ep := Rp.2.2.2 k ks
          have eq := Rq.2.2.2 k (by omega)
          rw [Int.toNat_natCast, ep.1] at a1
          rw [Int.toNat_natCast, ep.2] at a2
          rw [Int.toNat_natCast, eq.1] at b1
          rw [Int.toNat_natCast, eq.2] at b2
          exact ⟨⟨a1, a2⟩, b1, b2⟩
        obtain ⟨⟨r1, r2⟩, r3, r4⟩ := RD h H.1
        have HEAD : ∀ r, ((if (Z p).w.getD k 0 = (Z q).w.getD k 0 then (if (Z p).w.getD k 0 = 2 then run (d + 1) m_Mo_alike 197 [(107, 108), (0, x1), (0, x2), (0, (n : Int)), (0, 1), (0, (t : Int)), (0, (p : Int)), (0, (q : Int)), (0, (k : Int)), (0, (Z p).w.getD k 0)] [] h else (if (Z p).v.getD k 0 = (Z q).v.getD k 0 then run (d + 1) m_Mo_alike 197 [(107, 108), (0, x1), (0, x2), (0, (n : Int)), (0, 1), (0, (t : Int)), (0, (p : Int)), (0, (q : Int)), (0, (k : Int)), (0, (Z p).w.getD k 0)] [] h else run (d + 1) m_Mo_alike 201 [(107, 108), (0, x1), (0, x2), (0, (n : Int)), (0, 1), (0, (t : Int)), (0, (p : Int)), (0, (q : Int)), (0, (k : Int)), (0, (Z p).w.getD k 0)] [] h)) else run (d + 1) m_Mo_alike 201 [(107, 108), (0, x1), (0, x2), (0, (n : Int)), (0, 1), (0, (t : Int)), (0, (p : Int)), (0, (q : Int)), (0, (k : Int)), (0, (Z p).w.getD k 0)] [] h) = r) → run (d + 1) m_Mo_alike 116 [(107, 108), (0, x1), (0, x2), (0, (n : Int)), (0, 1), (0, (t : Int)), (0, (p : Int)), (0, (q : Int)), (0, (k : Int)), v9] [] h = r := by
          intro r hr
          rw [k_Mo_alike_116, H.1.a25, Option.bind_some, (RH h H.1).1, Option.bind_some, if_pos (by omega), if_neg (by decide), NP, NQ]
          simp only [H.1.a26, H.1.a27, r1, r2, r3, r4, Option.bind_some]
          exact hr
        have BAD : ∀ u : AV, run (d + 1) m_Mo_alike 201 [(107, 108), (0, x1), (0, x2), (0, (n : Int)), (0, 1), (0, (t : Int)), (0, (p : Int)), (0, (q : Int)), (0, (k : Int)), (0, (Z p).w.getD k 0)] [] h = some (0, h) := fun u => by
          rw [k_Mo_alike_201]; exact m_al0 H hp
        have kj : ∀ P : Prop, ((∀ j : Nat, k ≤ j → (j : Int) < (Z p).s → LoK (Z p) (Z q) (Sme Z) j) ∧ P) ↔ LoK (Z p) (Z q) (Sme Z) k ∧ (∀ j : Nat, k + 1 ≤ j → (j : Int) < (Z p).s → LoK (Z p) (Z q) (Sme Z) j) ∧ P := by
          intro P
          refine ⟨fun z => ⟨z.1 k (by omega) ks, fun j a b => z.1 j (by omega) b, z.2⟩, fun z => ⟨fun j a b => ?_, z.2.2⟩⟩
          by_cases e : j = k
          · rw [e]; exact z.1
          · exact z.2.1 j (by omega) b
        rw [kj]
        by_cases w : (Z p).w.getD k 0 = (Z q).w.getD k 0
        rotate_left
        · refine ⟨0, h, A, B, HEAD _ ?_, H, Fr.rf, Or.inl rfl, ⟨fun z => by omega, fun z => absurd z.1.1 w⟩⟩
          rw [if_neg w]; exact BAD (9, 0)
        rw [if_pos w] at HEAD
        by_cases w2 : (Z p).w.getD k 0 = 2
        · rw [if_pos w2] at HEAD
          have kp := m.kid hp ks w2
          have kq := m.kid hq (show (k : Int) < (Z q).s by omega) (w ▸ w2)
          obtain ⟨h1, a1, H1, F1⟩ := H.wA (i := n) (by omega) ((Z p).v.getD k 0)
          obtain ⟨h2, a2, H2, F2⟩ := H1.wB (i := n) (by omega) ((Z q).v.getD k 0)
          have Q2 := Q.push m hrk H.2.2.2.2.2.1 H.2.2.2.2.2.2 tn pe ks w2 kq.1 kq.2.1
          have n6 := Q2.n5
          obtain ⟨b, h', A', B', e1, e2, e3, e4, e5⟩ := ihl (k + 1) (n + 1) _ _ h2 (0, (Z p).w.getD k 0) (by omega) (by omega) (by rw [gd_ne (by omega)]; exact pe) Q2 H2
          obtain ⟨⟨-, -⟩, -, s4⟩ := RD h1 H1.1
          refine ⟨b, h', A', B', HEAD _ ?_, e2, (F1.tr F2).tr e3, e4, e5.trans ?_⟩
          · rw [k_Mo_alike_197, if_pos w2, NP, NQ]
            simp only [H.a29, H.1.a27, r2, a1, H1.a30, H1.1.a27, s4, a2, Option.bind_some]
            rw [add_id (by omega) (by omega), show (n : Int) + 1 = ((n + 1 : Nat) : Int) by omega, K1]
            exact e1
          · have oA : ∀ i, i < n → (A.set n ((Z p).v.getD k 0)).getD i 0 = A.getD i 0 := fun i hi => gd_ne (by omega)
            have oB : ∀ i, i < n → (B.set n ((Z q).v.getD k 0)).getD i 0 = B.getD i 0 := fun i hi => gd_ne (by omega)
            have nA : (A.set n ((Z p).v.getD k 0)).getD n 0 = (Z p).v.getD k 0 := by rw [gds (by have := H.2.2.2.2.2.1; omega), if_pos rfl]
            have nB : (B.set n ((Z q).v.getD k 0)).getD n 0 = (Z q).v.getD k 0 := by rw [gds (by have := H.2.2.2.2.2.2; omega), if_pos rfl]
            refine ⟨fun z => ⟨⟨w, fun _ => ?_, fun y => absurd w2 y⟩, z.1, fun i a b => ?_⟩, fun z => ⟨z.2.1, fun i a b => ?_⟩⟩
            · have := z.2 n (by omega) (by omega)
              rw [nA, nB] at this
              exact this
            · have := z.2 i a (by omega)
              rw [oA i b, oB i b] at this
              exact this
            · by_cases e : i = n
              · rw [e, nA, nB]; exact z.1.2.1 w2
              · rw [oA i (by omega), oB i (by omega)]; exact z.2.2 i a (by omega)
        · rw [if_neg w2] at HEAD
          by_cases v : (Z p).v.getD k 0 = (Z q).v.getD k 0
          rotate_left
          · refine ⟨0, h, A, B, HEAD _ ?_, H, Fr.rf, Or.inl rfl, ⟨fun z => by omega, fun z => absurd (z.1.2.2 w2) v⟩⟩
            rw [if_neg v]; exact BAD (9, 0)
          rw [if_pos v] at HEAD
          obtain ⟨b, h', A', B', e1, e2, e3, e4, e5⟩ := ihl (k + 1) n A B h (0, (Z p).w.getD k 0) (by omega) tn pe Q.step H
          refine ⟨b, h', A', B', HEAD _ ?_, e2, e3, e4, e5.trans ⟨fun z => ⟨⟨w, fun y => absurd y w2, fun _ => v⟩, z⟩, fun z => z.2⟩⟩
          rw [k_Mo_alike_197, if_neg w2, K1]
          exact e1
    obtain ⟨b, h', A', B', e1, e2, e3, e4, e5⟩ := INN (Z p).s.toNat 0 n A B h v9 (by omega) tn pe Q H
    refine ⟨b, h', A', B', ?_, e2, e3, e4, ?_⟩
    · rw [k_Mo_alike_60, if_pos (by omega), if_neg (by decide)]
      simp only [H.a29, rA, H.a30, rB, H.1.a25, (RH h H.1).1, (RH h H.1).2, Option.bind_some]
      rw [if_pos se]
      exact e1
    · rw [spl, here, e5]
      exact ⟨fun z => ⟨⟨se, fun j hj => z.1 j (by omega) hj⟩, z.2⟩, fun z => ⟨fun j _ hj => z.1.2 j hj, z.2⟩⟩
end ALM
section OPS
variable {scr : List Int}
theorem op_alike (a b : Int) : Op scr m_Ss_alike m_Mo_alike [(0, a), (0, b)] := by
  intro h I
  obtain ⟨hl, hs, ho', le, un, ke, ma, B, C, iS, iM, iN, iT, iP, iK, iX, iF, iW, iI, iB⟩ := id I
  obtain ⟨pl, be, to, va, br, la, hm⟩ := id iM
  obtain ⟨Z, ro, ho, wh, tg, li, X, M, m, R⟩ := iB.sp hm
  have c1 : ∀ a : Int, cal 58 m_Bs_has [(102, 51), (0, a)] h = some (bI (decide (0 ≤ a ∧ a < 5)), h) := fun a => c_bsHas a
  have m1 : ∀ a : Int, cal 58 m_Mo_isBox [(0, a)] h = some (bI (decide (0 ≤ a ∧ a < 5)), h) := fun a => m_isBox a
  by_cases ha : 0 ≤ a ∧ a < 5
  rotate_left
  · refine ⟨-2, h, h, ?_, hs, ?_, I⟩
    · rw [k_Ss_alike]; simp only [iS.r9, c1 a, bI_f ha, Option.bind_some]; rfl
    · rw [k_Mo_alike]; simp only [m1 a, bI_f ha, Option.bind_some]; rfl
  by_cases hb : 0 ≤ b ∧ b < 5
  rotate_left
  · refine ⟨-2, h, h, ?_, hs, ?_, I⟩
    · rw [k_Ss_alike]; simp only [iS.r9, c1 a, c1 b, bI_t ha, bI_f hb, Option.bind_some]; rfl
    · rw [k_Mo_alike]; simp only [m1 a, m1 b, bI_t ha, bI_f hb, Option.bind_some]; rfl
  have c2 := c1 a
  have c3 := c1 b
  have m2 := m1 a
  have m3 := m1 b
  rw [bI_t ha] at c2 m2
  rw [bI_t hb] at c3 m3
  obtain ⟨p, rfl⟩ : ∃ x : Nat, a = (x : Int) := ⟨a.toNat, by omega⟩
  obtain ⟨q, rfl⟩ : ∃ x : Nat, b = (x : Int) := ⟨b.toNat, by omega⟩
  have hp : p < 5 := by omega
  have hq : q < 5 := by omega
  have TH : ∀ i : Nat, i < 5 → cal 58 m_Bs_isThere [(102, 51), (0, (i : Int))] h = some ((Z i).t, h) := by
    intro i hi
    rw [k_Bs_isThere]; simp only [X.ra, X.rb hi, X.f4 hi, Option.bind_some]
    rcases (m.1 i hi).1 with z | z
    · rw [z]; rfl
    · rw [z]; rfl
  have RR : ∀ i : Nat, i < 5 → rda 20 h 123 (i : Int) = some (if (Z i).t = 1 then (Z i).r else -1) := by
    intro i hi
    have rR := M.rR (i := (i : Int)) (by omega) (by omega)
    rw [Int.toNat_natCast, (R i hi).1] at rR
    exact rR
  have mp := m.1 p hp
  have mq := m.1 q hq
  have r1 := RR p hp
  have r2 := RR q hq
  by_cases t0 : (Z p).t = 0
  · rw [if_neg (by omega)] at r1
    refine ⟨-11, h, h, ?_, hs, ?_, I⟩
    · rw [k_Ss_alike]; simp only [iS.r9, c2, c3, TH p hp, Option.bind_some]; rw [if_neg (by decide), if_neg (by decide), if_pos t0]
    · rw [k_Mo_alike]; simp only [m2, m3, M.a24, r1, Option.bind_some]; rfl
  rw [if_pos (by omega)] at r1
  by_cases t1 : (Z q).t = 0
  · rw [if_neg (by omega)] at r2
    refine ⟨-11, h, h, ?_, hs, ?_, I⟩
    · rw [k_Ss_alike]; simp only [iS.r9, c2, c3, TH p hp, TH q hq, Option.bind_some]; rw [if_neg (by decide), if_neg (by decide), if_neg t0, if_pos t1]
    · rw [k_Mo_alike]; simp only [m2, m3, M.a24, r1, r2, Option.bind_some]; rw [if_neg (by decide), if_neg (by decide), if_neg (by omega), if_pos (by decide)]
  rw [if_pos (by omega)] at r2
  have hsF : cal 57 m_Bs_holdSameFrom [(102, 51), (0, (p : Int)), (0, (q : Int)), (0, 0)] h = some (bI (sm Z 6 p q), h) := c_same (d := 43) X m 6 p q (by omega) hp hq
  have hsm : cal 58 m_Bs_holdSame [(102, 51), (0, (p : Int)), (0, (q : Int))] h = some (bI (sm Z 6 p q), h) := by
    rw [k_Bs_holdSame, hsF, Option.bind_some]
    cases sm Z 6 p q <;> rfl
  obtain ⟨-, -, -, -, -, -, -, -, ⟨A, eA, lA⟩, ⟨B', eB, lB⟩⟩ := id iW
  have H : AL h (hM le pl be to va br un ke la ma) ro ho wh tg li A B' := ⟨M, rfl, rfl, eA, eB, lA, lB⟩
  obtain ⟨h1, a1, H1, F1⟩ := H.wA (i := 0) (by omega) (p : Int)
  obtain ⟨h2, a2, H2, F2⟩ := H1.wB (i := 0) (by omega) (q : Int)
  have g1 : (A.set 0 (p : Int)).getD 0 0 = (p : Int) := by rw [gds (by omega), if_pos rfl]
  have g2 : (B'.set 0 (q : Int)).getD 0 0 = (q : Int) := by rw [gds (by omega), if_pos rfl]
  obtain ⟨rk, hrk⟩ := m.2.2.2.2
  have Q : QI Z rk (A.set 0 (p : Int)) (B'.set 0 (q : Int)) 1 0 0 := by
    refine ⟨fun i hi => ?_, fun i j hi hj _ => by omega, fun i a b => by omega, fun i hi => ?_⟩
    · rw [show i = 0 by omega, g1, g2]; omega
    · rw [show i = 0 by omega]; exact Nat.le_refl _
  obtain ⟨v, h3, A3, B3, e1, e2, e3, e4, e5⟩ := m_al (d := 58) (x1 := (p : Int)) (x2 := (q : Int)) m R hrk 6 0 1 _ _ h2 (9, 0) (9, 0) (9, 0) (9, 0) (by omega) Q H2
  have F : Fr QB h h3 := (F1.tr F2).tr e3
  have T : Fr (fun j => (53 ≤ j ∧ j < 68) ∨ (123 ≤ j ∧ j < 130)) h h3 := F.wd (fun j z => by unfold QB at z; omega)
  have ve : v = bI (sm Z 6 p q) := by
    have six := sme_six (Z := Z) m (p := p) (q := q) hp
    have one : (∀ i, 0 ≤ i → i < 1 → Sme Z ((A.set 0 (p : Int)).getD i 0).toNat ((B'.set 0 (q : Int)).getD i 0).toNat) ↔ Sme Z p q := by
      refine ⟨fun z => ?_, fun z i _ hi => ?_⟩
      · have := z 0 (by omega) (by omega)
        rw [g1, g2, Int.toNat_natCast, Int.toNat_natCast] at this
        exact this
      · rw [show i = 0 by omega, g1, g2, Int.toNat_natCast, Int.toNat_natCast]; exact z
    rw [one, six] at e5
    cases z : sm Z 6 p q with
    | false =>
      rw [z] at e5
      rcases e4 with y | y
      · exact y
      · exact absurd (e5.1 y) (by decide)
    | true => exact e5.2 z
  refine ⟨bI (sm Z 6 p q), h, h3, ?_, hs, ?_, inv_bx hl hs ho' iS iM iN iT iP iK iX iF iW iI T ⟨A3, e2.2.2.2.1, e2.2.2.2.2.2.1⟩ ⟨B3, e2.2.2.2.2.1, e2.2.2.2.2.2.2⟩ (iB.fr F (fun j a b => by unfold QB; omega) (fun j a b => by unfold QB; omega))⟩
  · rw [k_Ss_alike]
    simp only [iS.r9, c2, c3, TH p hp, TH q hq, hsm, Option.bind_some]
    rw [if_neg (by decide), if_neg (by decide), if_neg t0, if_neg t1]
    cases sm Z 6 p q <;> rfl
  · have a1 : wra 20 h 128 0 (p : Int) = some h1 := a1
    have a2 : wra 20 h1 129 0 (q : Int) = some h2 := a2
    have s1 := mp.2.2.2.2.2.1 (by omega)
    have s2 := mq.2.2.2.2.2.1 (by omega)
    rw [k_Mo_alike]
    simp only [m2, m3, M.a24, r1, r2, H.a29, a1, H1.a30, a2, Option.bind_some]
    rw [if_neg (by decide), if_neg (by decide), if_neg (by omega), if_neg (by omega), ← ve]
    exact e1
end OPS
