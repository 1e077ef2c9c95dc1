/-! The model's move: sowing. -/
section MGO
variable {h : AH} {q d : Nat} {st : Int}
theorem m_29 {B0 : Bo} (H0 : MnH h q B0) : ∀ (k : Nat) (B : Bo) (a : Int) (v5 v6 : AV), BoOK B → B.bn B.t + 500 ≤ 2000000 → k ≤ 99 → 0 ≤ a → a < 2 * B.w →
    ((spr st k B a).1 = -1 → ∃ (c : Int) (B' : Bo), 0 ≤ c ∧ c ≤ 99 ∧ (spr st k B a).2 = B'.setBn B'.t (B'.bn B'.t + c) ∧ B'.t = B.t ∧ B'.m = B.m ∧ B'.bn B.t = B.bn B.t ∧ run (d + 3) m_Mo_goes 29 [(107, (q : Int)), (0, st), (0, B.t), (0, (k : Int)), (0, a), v5, v6] [] (setN h q B) = some (c, setN h q (fin B' (B'.bn B'.t + c)))) ∧
    ((spr st k B a).1 ≠ -1 → run (d + 3) m_Mo_goes 29 [(107, (q : Int)), (0, st), (0, B.t), (0, (k : Int)), (0, a), v5, v6] [] (setN h q B) = run (d + 3) m_Mo_goes 125 [(107, (q : Int)), (0, st), (0, B.t), (0, 0), (0, (spr st k B a).1), (0, 0), (0, 1)] [] (setN h q (spr st k B a).2)) := by
  intro k
  induction k with
  | zero =>
    intro B a v5 v6 O _ _ h0 h1
    refine ⟨fun z => ?_, fun _ => ?_⟩
    · have z : a = -1 := z
      omega
    · rw [k_Mo_goes_29, if_neg (by omega), if_pos (by omega)]
      rfl
  | succ k ih =>
    intro B a v5 v6 O hb hk h0 h1
    have H : MnH (setN h q B) q B := H0.set _
    have hw5 := O.w5
    have h29a : ntk B st (2 * B.w).toNat a = -1 → run (d + 3) m_Mo_goes 29 [(107, (q : Int)), (0, st), (0, B.t), (0, ((k + 1 : Nat) : Int)), (0, a), v5, v6] [] (setN h q B) = some (((k + 1 : Nat) : Int), setN h q (fin B (B.bn B.t + ((k + 1 : Nat) : Int)))) := by
      intro e
      rw [k_Mo_goes_29, if_pos (show 0 < ((k + 1 : Nat) : Int) by omega), m_any H O h0 h1, Option.bind_some, decide_eq_true e, if_pos (show bI (!true) = 0 from rfl), if_neg (show ¬ ((k + 1 : Nat) : Int) = 0 by omega), k_Mo_goes_125, if_pos rfl]
      show run (d + 3) m_Mo_goes 202 _ [] (setN h q B) = _
      rw [m_202 H O (by omega) (by omega), setN_setN]
    by_cases e : ntk B st (2 * B.w).toNat a = -1
    · unfold spr
      rw [if_pos e]
      exact ⟨fun _ => ⟨((k + 1 : Nat) : Int), B, by omega, by omega, rfl, rfl, rfl, rfl, h29a e⟩, fun z => absurd rfl z⟩
    · have hr : 0 ≤ ntk B st (2 * B.w).toNat a ∧ ntk B st (2 * B.w).toNat a < 2 * B.w ∧ B.tk (ntk B st (2 * B.w).toNat a) = true := by
        rcases ntk_r (st := st) O (2 * B.w).toNat a h0 with z | z
        · exact absurd z e
        · exact ⟨z.1, z.2.1, z.2.2.2⟩
      have ht := tk_lt hr.2.2
      have hsi := si_r O hr.1 (by omega)
      have hstep : run (d + 3) m_Mo_goes 29 [(107, (q : Int)), (0, st), (0, B.t), (0, ((k + 1 : Nat) : Int)), (0, a), v5, v6] [] (setN h q B) = run (d + 3) m_Mo_goes 29 [(107, (q : Int)), (0, st), (0, B.t), (0, (k : Int)), (0, ntk B st (2 * B.w).toNat a), v5, v6] [] (setN h q (B.setS (ntk B st (2 * B.w).toNat a) (B.si (ntk B st (2 * B.w).toNat a) + 1))) := by
        rw [k_Mo_goes_29, if_pos (show 0 < ((k + 1 : Nat) : Int) by omega), m_any H O h0 h1, Option.bind_some, decide_eq_false e, if_neg (show ¬ bI (!false) = 0 by decide)]
        show (cal (d + 2) m_Mo_next [(107, (q : Int)), (0, a)] (setN h q B)).bind _ = _
        rw [m_next H O h0 h1, Option.bind_some]
        refine (m_49 (d := d + 1) H O (2 * B.w).toNat a h0 h1 e).trans ?_
        rw [add_id (by omega) (by omega), show (((k + 1 : Nat) : Int) + -1) = (k : Int) by omega, setN_setN]
      unfold spr
      rw [if_neg e]
      obtain ⟨i1, i2⟩ := ih (B.setS (ntk B st (2 * B.w).toNat a) (B.si (ntk B st (2 * B.w).toNat a) + 1)) (ntk B st (2 * B.w).toNat a) v5 v6 (ok_setS O (by omega) (by omega)) hb (by omega) hr.1 hr.2.1
      refine ⟨fun z => ?_, fun z => ?_⟩
      · obtain ⟨c, B', g1, g2, g3, g4, g5, g6, g7⟩ := i1 z
        exact ⟨c, B', g1, g2, g3, g4, g5, g6, hstep.trans g7⟩
      · exact hstep.trans (i2 z)
theorem m_goes {B : Bo} {i : Int} (H : MnH h q B) (O : BoOK B) (hb : B.bn B.t + 500 ≤ 1500000) (h0 : 0 ≤ i) (h1 : i < 2 * B.w) : cal (d + 4) m_Mo_goes [(107, (q : Int)), (0, i)] h = some (brg B i, setN h q (sow B i)) := by
  have hw5 := O.w5
  have hw2 := O.w2
  have hli := li_r O h0 (by omega)
  have hsi := si_r O h0 (by omega)
  have hbn := bn_r (s := B.t) O
  obtain ⟨OC, SC, c1, c2⟩ := sowC_ok O (by omega) h0 h1
  obtain ⟨g1, g2, g3, g4⟩ := spr_ok (st := i) (B.li i).toNat (B.setS i (B.si i - B.li i)) i (ok_setS O (by omega) (by omega)) (by show B.bn B.t + 99 ≤ _; omega) (by omega) h0 h1
  obtain ⟨m1, m2⟩ := m_29 (d := d + 1) (st := i) H (B.li i).toNat (B.setS i (B.si i - B.li i)) i (9, 0) (9, 0) (ok_setS O (by omega) (by omega)) (by show B.bn B.t + 500 ≤ _; omega) (by omega) h0 h1
  rw [Int.toNat_of_nonneg hli.1] at m1 m2
  rw [k_Mo_goes, H.now, Option.bind_some, H.rt, Option.bind_some, m_lifts H O h0 (by omega), Option.bind_some]
  show (rdr 7 h (q : Int) 0).bind _ = _
  rw [H.now, Option.bind_some]
  show (rda 20 h ((q + 1 : Nat) : Int) (a_add 15 i)).bind _ = _
  rw [H.rs O h0 (by omega), Option.bind_some]
  show (wra 20 h ((q + 1 : Nat) : Int) (a_add 15 i) (a_sub (B.si i) (B.li i))).bind _ = _
  rw [sub_id (by omega) (by omega), H.ws O h0 (by omega), Option.bind_some]
  have eC : sowC B i = if (spr i (B.li i).toNat (B.setS i (B.si i - B.li i)) i).1 = -1 then (spr i (B.li i).toNat (B.setS i (B.si i - B.li i)) i).2 else rp B.w.toNat (spr i (B.li i).toNat (B.setS i (B.si i - B.li i)) i).2 (spr i (B.li i).toNat (B.setS i (B.si i - B.li i)) i).1 := rfl
  generalize spr i (B.li i).toNat (B.setS i (B.si i - B.li i)) i = p at g1 g2 g3 g4 eC m1 m2 ⊢
  have g2 : Same B p.2 := same_setS.tr g2
  have g4 : (p.1 = -1 ∧ p.2.bn B.t ≤ B.bn B.t + ((B.li i).toNat : Int)) ∨ (0 ≤ p.1 ∧ p.1 < 2 * B.w ∧ p.2.bn B.t = B.bn B.t) := g4
  show run (d + 3 + 1) m_Mo_goes 29 [(107, (q : Int)), (0, i), (0, B.t), (0, B.li i), (0, i), (9, 0), (9, 0)] [] (setN h q (B.setS i (B.si i - B.li i))) = _
  rcases g4 with ⟨e, g⟩ | ⟨e1, e2, g⟩
  · rw [if_pos e] at eC
    obtain ⟨c, B', f1, f2, f3, f4, f5, f6, f7⟩ := m1 e
    have f4 : B'.t = B.t := f4
    have f5 : B'.m = B.m := f5
    have f6 : B'.bn B.t = B.bn B.t := f6
    refine f7.trans ?_
    have hbr : brg B i = c := by
      unfold brg
      rw [eC, f3, f4, bn_setBn, f6]
      omega
    have hso : sow B i = fin B' (B'.bn B'.t + c) := by
      unfold sow fin
      rw [eC, f3, f4, f5]
    rw [hbr, hso]
  · have ne : p.1 ≠ -1 := by omega
    rw [if_neg ne] at eC
    refine (m2 ne).trans ?_
    have ht : p.2.t = B.t := g2.2.1
    have hw : p.2.w = B.w := g2.1
    have t01 := O.t01
    have := m_125 (d := d + 2) (st := i) (x3 := 0) H B.w.toNat p.2 (p.2.bn p.2.t) p.1 0 g1 (by rw [ht, g]; omega) (by rw [ht, g]; omega) (by rw [ht, g]; omega) (by omega) (by omega) e1 (by rw [hw]; exact e2) (by
      rw [ht, hw]
      intro y
      unfold sd at y
      rcases t01 with t | t
      · rw [t] at y ⊢
        simp only [if_true]
        split at y <;> omega
      · rw [t] at y ⊢
        simp only [show ¬ ((1 : Int) = 0) by decide, if_false]
        split at y <;> omega)
    rw [setBn_self, ht, ← eC] at this
    refine this.trans ?_
    rw [g]
    have hbr : brg B i = 0 + ((sowC B i).bn B.t - B.bn B.t) := by unfold brg; omega
    have hso : sow B i = fin (sowC B i) (B.bn B.t + (0 + ((sowC B i).bn B.t - B.bn B.t))) := by
      rw [show B.bn B.t + (0 + ((sowC B i).bn B.t - B.bn B.t)) = (sowC B i).bn B.t by omega]
      unfold fin
      rw [SC.2.1, setBn_self, SC.2.2.1]
      rfl
    rw [hbr, hso]
end MGO
