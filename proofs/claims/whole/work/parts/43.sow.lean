/-! What a move keeps; the class's move. -/
def Same (B C : Bo) : Prop := C.w = B.w ∧ C.t = B.t ∧ C.m = B.m ∧ C.ks = B.ks ∧ (B.t = 0 → C.b1 = B.b1) ∧ (B.t ≠ 0 → C.b0 = B.b0)
theorem Same.rf {B : Bo} : Same B B := ⟨rfl, rfl, rfl, rfl, fun _ => rfl, fun _ => rfl⟩
theorem Same.tr {B C D : Bo} (h1 : Same B C) (h2 : Same C D) : Same B D := ⟨h2.1.trans h1.1, h2.2.1.trans h1.2.1, h2.2.2.1.trans h1.2.2.1, h2.2.2.2.1.trans h1.2.2.2.1, fun z => (h2.2.2.2.2.1 (h1.2.1.trans z)).trans (h1.2.2.2.2.1 z), fun z => (h2.2.2.2.2.2 (fun y => z (h1.2.1.symm.trans y))).trans (h1.2.2.2.2.2 z)⟩
theorem same_setS {B : Bo} {i v : Int} : Same B (B.setS i v) := ⟨rfl, rfl, rfl, rfl, fun _ => rfl, fun _ => rfl⟩
theorem same_setBn {B : Bo} {v : Int} : Same B (B.setBn B.t v) := ⟨rfl, rfl, rfl, rfl, fun z => if_pos z, fun z => if_neg z⟩
theorem bn_setS {B : Bo} {i v s : Int} : (B.setS i v).bn s = B.bn s := rfl
theorem bn_setBn {B : Bo} {s v : Int} : (B.setBn s v).bn s = v := by
  show (if s = 0 then (if s = 0 then v else B.b0) else (if s = 0 then B.b1 else v)) = v
  by_cases z : s = 0 <;> simp [z]
theorem spr_ok {st : Int} : ∀ (k : Nat) (B : Bo) (a : Int), BoOK B → B.bn B.t + 99 ≤ 2000000 → k ≤ 99 → 0 ≤ a → a < 2 * B.w → BoOK (spr st k B a).2 ∧ Same B (spr st k B a).2 ∧ B.bn B.t ≤ (spr st k B a).2.bn B.t ∧ (((spr st k B a).1 = -1 ∧ (spr st k B a).2.bn B.t ≤ B.bn B.t + (k : Int)) ∨ (0 ≤ (spr st k B a).1 ∧ (spr st k B a).1 < 2 * B.w ∧ (spr st k B a).2.bn B.t = B.bn B.t)) := by
  intro k
  induction k with
  | zero => intro B a O _ _ h0 h1; exact ⟨O, Same.rf, Int.le_refl _, Or.inr ⟨h0, h1, rfl⟩⟩
  | succ k ih =>
    intro B a O hb hk h0 h1
    have hbn := bn_r (s := B.t) O
    unfold spr
    rcases ntk_r (st := st) O (2 * B.w).toNat a h0 with e | ⟨e1, e2, e3, e4⟩
    · rw [if_pos e]
      refine ⟨ok_setBn O (by omega) (by omega), same_setBn, ?_, Or.inl ⟨rfl, ?_⟩⟩
      · show _ ≤ (B.setBn B.t _).bn B.t
        rw [bn_setBn]; omega
      · show (B.setBn B.t _).bn B.t ≤ _
        rw [bn_setBn]; omega
    · rw [if_neg (by omega)]
      have ht := tk_lt e4
      have hw5 := O.w5
      have hsi := si_r O e1 (by omega)
      obtain ⟨g1, g2, g3, g4⟩ := ih (B.setS (ntk B st (2 * B.w).toNat a) (B.si (ntk B st (2 * B.w).toNat a) + 1)) (ntk B st (2 * B.w).toNat a) (ok_setS O (by omega) (by omega)) hb (by omega) e1 e2
      refine ⟨g1, same_setS.tr g2, g3, ?_⟩
      rcases g4 with ⟨g, g'⟩ | g
      · refine Or.inl ⟨g, ?_⟩
        have : (B.setS (ntk B st (2 * B.w).toNat a) (B.si (ntk B st (2 * B.w).toNat a) + 1)).bn (B.setS (ntk B st (2 * B.w).toNat a) (B.si (ntk B st (2 * B.w).toNat a) + 1)).t = B.bn B.t := rfl
        rw [this] at g'
        have e : (B.setS (ntk B st (2 * B.w).toNat a) (B.si (ntk B st (2 * B.w).toNat a) + 1)).t = B.t := rfl
        rw [e] at g'
        omega
      · exact Or.inr g
theorem rp_ok : ∀ (k : Nat) (B : Bo) (a : Int), BoOK B → B.bn B.t + 99 * (k : Int) ≤ 2000000 → 0 ≤ a → a < 2 * B.w → BoOK (rp k B a) ∧ Same B (rp k B a) ∧ B.bn B.t ≤ (rp k B a).bn B.t ∧ (rp k B a).bn B.t ≤ B.bn B.t + 99 * (k : Int) := by
  intro k
  induction k with
  | zero => intro B a O _ _ _; exact ⟨O, Same.rf, Int.le_refl _, by show B.bn B.t ≤ _; omega⟩
  | succ k ih =>
    intro B a O hb h0 h1
    have hbn := bn_r (s := B.t) O
    have hw5 := O.w5
    have hw2 := O.w2
    have hsi := si_r O h0 (by omega)
    unfold rp
    by_cases e : sd B.w a ≠ B.t ∧ B.yl a = true
    · rw [if_pos e]
      have hbb : ((B.setBn B.t (B.bn B.t + B.si a)).setS a 0).bn B.t = B.bn B.t + B.si a := bn_setBn
      obtain ⟨g1, g2, g3, g4⟩ := ih ((B.setBn B.t (B.bn B.t + B.si a)).setS a 0) (if 0 < a then a - 1 else 2 * B.w - 1) (ok_setS (ok_setBn O (by omega) (by omega)) (by omega) (by omega)) (by show ((B.setBn B.t (B.bn B.t + B.si a)).setS a 0).bn B.t + _ ≤ _; rw [hbb]; omega) (by split <;> omega) (by show _ < 2 * B.w; split <;> omega)
      have e2 : ((B.setBn B.t (B.bn B.t + B.si a)).setS a 0).t = B.t := rfl
      rw [e2, hbb] at g3 g4
      exact ⟨g1, (same_setBn.tr same_setS).tr g2, by omega, by omega⟩
    · rw [if_neg e]
      exact ⟨O, Same.rf, Int.le_refl _, by omega⟩
theorem sowC_ok {B : Bo} {i : Int} (O : BoOK B) (hb : B.bn B.t + 500 ≤ 2000000) (h0 : 0 ≤ i) (h1 : i < 2 * B.w) : BoOK (sowC B i) ∧ Same B (sowC B i) ∧ B.bn B.t ≤ (sowC B i).bn B.t ∧ (sowC B i).bn B.t ≤ B.bn B.t + 495 := by
  have hw5 := O.w5
  have hw2 := O.w2
  have hli := li_r O h0 (by omega)
  have hsi := si_r O h0 (by omega)
  obtain ⟨g1, g2, g3, g4⟩ := spr_ok (st := i) (B.li i).toNat (B.setS i (B.si i - B.li i)) i (ok_setS O (by omega) (by omega)) (by show B.bn B.t + 99 ≤ _; omega) (by omega) h0 h1
  unfold sowC
  generalize spr i (B.li i).toNat (B.setS i (B.si i - B.li i)) i = p at g1 g2 g3 g4 ⊢
  have g2 : Same B p.2 := same_setS.tr g2
  have g3 : B.bn B.t ≤ p.2.bn B.t := g3
  have g4 : (p.1 = -1 ∧ p.2.bn B.t ≤ B.bn B.t + ((B.li i).toNat : Int)) ∨ (0 ≤ p.1 ∧ p.1 < 2 * B.w ∧ p.2.bn B.t = B.bn B.t) := g4
  rcases g4 with ⟨e, g⟩ | ⟨e1, e2, g⟩
  · rw [if_pos e]
    exact ⟨g1, g2, g3, by omega⟩
  · rw [if_neg (by omega)]
    have ht : p.2.t = B.t := g2.2.1
    have hw : p.2.w = B.w := g2.1
    obtain ⟨f1, f2, f3, f4⟩ := rp_ok B.w.toNat p.2 p.1 g1 (by rw [ht, g]; omega) e1 (by rw [hw]; exact e2)
    rw [ht, g] at f3 f4
    exact ⟨f1, g2.tr f2, f3, by omega⟩
theorem ok_end {B C : Bo} {i : Int} (O : BoOK B) (ht : B.t = 0 ∨ B.t = 1) (hm : B.m < 1100) (h0 : 0 ≤ B.m) : BoOK ((B.setT (1 - B.t)).setM (B.m + 1)) :=
  ⟨O.w2, O.w5, O.kl, O.sl, O.kr, O.sr, by show 1 - B.t = 0 ∨ 1 - B.t = 1; omega, by show 0 ≤ B.m + 1; omega, by show B.m + 1 ≤ 1100; omega, O.p0, O.p1, O.q0, O.q1⟩
theorem sow_eq {B : Bo} {i : Int} (S : Same B (sowC B i)) : sow B i = ((sowC B i).setT (1 - (sowC B i).t)).setM ((sowC B i).m + 1) := by
  unfold sow; rw [S.2.1, S.2.2.1]
theorem c_sow {h : AH} {n d : Nat} {B : Bo} {i : Int} (H : BdH h n B) (O : BoOK B) (hb : B.bn B.t + 500 ≤ 2000000) (h0 : 0 ≤ i) (h1 : i < 2 * B.w) : cal (d + 5) m_Bd_sow [(100, (n : Int)), (0, i)] h = some (brg B i, setB h n (sow B i)) := by
  have hw5 := O.w5
  have hw2 := O.w2
  have hm0 := O.m0
  have hmm := O.mm
  have hli := li_r O h0 (by omega)
  have hsi := si_r O h0 (by omega)
  have hl := H.lt
  have hbn := bn_r (s := B.t) O
  have hspr : cal (d + 4) m_Bd_spread [(100, (n : Int)), (0, i)] h = some ((spr i (B.li i).toNat (B.setS i (B.si i - B.li i)) i).1, setB h n (spr i (B.li i).toNat (B.setS i (B.si i - B.li i)) i).2) := by
    rw [k_Bd_spread, c_bLifted H O h0 (by omega), Option.bind_some]
    show (rdr 0 h (n : Int) 1).bind _ = _
    rw [H.rs, Option.bind_some]
    show (rda 20 h ((n + 2 : Nat) : Int) i).bind _ = _
    rw [H.sA O h0 (by omega), Option.bind_some]
    show (wra 20 h ((n + 2 : Nat) : Int) i (a_sub (B.si i) (B.li i))).bind _ = _
    rw [sub_id (by omega) (by omega), H.wS O h0 (by omega), Option.bind_some]
    have := c_spr (d := d + 1) hl (st := i) (B.li i).toNat (B.setS i (B.si i - B.li i)) i (9, 0) (ok_setS O (by omega) (by omega)) (by show B.bn B.t + 99 ≤ _; omega) (by omega) h0 h1
    rw [Int.toNat_of_nonneg hli.1] at this
    exact this
  have hC := sowC_ok O hb h0 h1
  obtain ⟨OC, SC, c1, c2⟩ := hC
  have hbC := bn_r (s := B.t) OC
  have hend : ∀ (C : Bo), C = sowC B i → (rdr 0 (setB h n C) (n : Int) 2).bind (fun y5 => (rdf 0 (setB h n C) (n : Int) 4).bind (fun y6 => (rda 20 (setB h n C) y5 y6).bind (fun y7 => (rdf 0 (setB h n C) (n : Int) 4).bind (fun y8 => (wrf 0 (setB h n C) (n : Int) 4 (a_sub 1 y8)).bind (fun h9 => (rdf 0 h9 (n : Int) 5).bind (fun y10 => (wrf 0 h9 (n : Int) 5 (a_add y10 1)).bind (fun h11 => some (a_sub y7 (B.bn B.t), h11)))))))) = some (brg B i, setB h n (sow B i)) := by
    intro C eC
    have HC : BdH (setB h n C) n C := bdH_set hl
    have tC : C.t = B.t := by rw [eC]; exact SC.2.1
    have mC : C.m = B.m := by rw [eC]; exact SC.2.2.1
    have t01 := O.t01
    rw [HC.rb, Option.bind_some, HC.rt, Option.bind_some, tC, HC.rB t01, Option.bind_some, Option.bind_some, sub_id (x := 1) (by omega) (by omega), HC.wT, Option.bind_some, setB_setB hl]
    have HD : BdH (setB h n (C.setT (1 - B.t))) n (C.setT (1 - B.t)) := bdH_set hl
    rw [HD.rm, Option.bind_some, show (C.setT (1 - B.t)).m = B.m from mC, add_id (by omega) (by omega), HD.wM, Option.bind_some, setB_setB hl, eC, sub_id (by omega) (by omega)]
    rfl
  rw [k_Bd_sow, H.rb, Option.bind_some, H.rt, Option.bind_some, H.rB O.t01, Option.bind_some, hspr, Option.bind_some]
  obtain ⟨g1, g2, g3, g4⟩ := spr_ok (st := i) (B.li i).toNat (B.setS i (B.si i - B.li i)) i (ok_setS O (by omega) (by omega)) (by show B.bn B.t + 99 ≤ _; omega) (by omega) h0 h1
  have eC : sowC B i = if (spr i (B.li i).toNat (B.setS i (B.si i - B.li i)) i).1 = -1 then (spr i (B.li i).toNat (B.setS i (B.si i - B.li i)) i).2 else rp B.w.toNat (spr i (B.li i).toNat (B.setS i (B.si i - B.li i)) i).2 (spr i (B.li i).toNat (B.setS i (B.si i - B.li i)) i).1 := rfl
  generalize spr i (B.li i).toNat (B.setS i (B.si i - B.li i)) i = p at g1 g2 g3 g4 eC ⊢
  have g2 : Same B p.2 := same_setS.tr g2
  have g4 : (p.1 = -1 ∧ p.2.bn B.t ≤ B.bn B.t + ((B.li i).toNat : Int)) ∨ (0 ≤ p.1 ∧ p.1 < 2 * B.w ∧ p.2.bn B.t = B.bn B.t) := g4
  show (if p.1 = -1 then _ else _) = _
  rcases g4 with ⟨e, g⟩ | ⟨e1, e2, g⟩
  · rw [if_pos e] at eC ⊢
    exact hend p.2 eC.symm
  · rw [if_neg (by omega)] at eC
    rw [if_neg (by omega)]
    have ht : p.2.t = B.t := g2.2.1
    have hw : p.2.w = B.w := g2.1
    have hrp : cal (d + 4) m_Bd_reap [(100, (n : Int)), (0, p.1)] (setB h n p.2) = some (0, setB h n (sowC B i)) := by
      rw [k_Bd_reap, eC]
      exact c_rp (d := d + 1) hl B.w.toNat p.2 p.1 0 g1 (by rw [ht, g]; omega) e1 (by rw [hw]; exact e2) (by omega) (by rw [hw]; omega)
    show (cal (d + 4) m_Bd_reap [(100, (n : Int)), (0, p.1)] (setB h n p.2)).bind _ = _
    rw [hrp, Option.bind_some]
    exact hend (sowC B i) rfl
