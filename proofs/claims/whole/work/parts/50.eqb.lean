/-! Two boards alike in all that counts: the houses below twice the width. -/
def EqB (B C : Bo) : Prop := C.w = B.w ∧ C.t = B.t ∧ C.b0 = B.b0 ∧ C.b1 = B.b1 ∧ C.m = B.m ∧ ∀ i : Int, 0 ≤ i → i < 2 * B.w → C.ki i = B.ki i ∧ C.si i = B.si i
section EQB
variable {B C : Bo} {i v s st : Int}
theorem EqB.rf : EqB B B := ⟨rfl, rfl, rfl, rfl, rfl, fun _ _ _ => ⟨rfl, rfl⟩⟩
theorem EqB.bn (E : EqB B C) : C.bn s = B.bn s := by unfold Bo.bn; rw [E.2.2.1, E.2.2.2.1]
theorem EqB.li (E : EqB B C) (h0 : 0 ≤ i) (h1 : i < 2 * B.w) : C.li i = B.li i := by unfold Bo.li; rw [(E.2.2.2.2.2 i h0 h1).1, (E.2.2.2.2.2 i h0 h1).2]
theorem EqB.tk (E : EqB B C) (h0 : 0 ≤ i) (h1 : i < 2 * B.w) : C.tk i = B.tk i := by unfold Bo.tk; rw [(E.2.2.2.2.2 i h0 h1).1, (E.2.2.2.2.2 i h0 h1).2]
theorem EqB.yl (E : EqB B C) (h0 : 0 ≤ i) (h1 : i < 2 * B.w) : C.yl i = B.yl i := by unfold Bo.yl; rw [(E.2.2.2.2.2 i h0 h1).1, (E.2.2.2.2.2 i h0 h1).2]
theorem EqB.go (E : EqB B C) (h0 : 0 ≤ i) (h1 : i < 2 * B.w) : C.go i = B.go i := by unfold Bo.go; rw [E.li h0 h1, E.1, E.2.1]
theorem EqB.setS (E : EqB B C) (O : BoOK B) (O' : BoOK C) (h0 : 0 ≤ i) (h1 : i < 10) : EqB (B.setS i v) (C.setS i v) :=
  ⟨E.1, E.2.1, E.2.2.1, E.2.2.2.1, E.2.2.2.2.1, fun j g0 g1 => ⟨(E.2.2.2.2.2 j g0 g1).1, by rw [si_set O h0 h1 g0, si_set O' h0 h1 g0, (E.2.2.2.2.2 j g0 g1).2]⟩⟩
theorem EqB.setBn (E : EqB B C) : EqB (B.setBn s v) (C.setBn s v) := by
  refine ⟨E.1, E.2.1, ?_, ?_, E.2.2.2.2.1, E.2.2.2.2.2⟩
  · show (if s = 0 then v else C.b0) = if s = 0 then v else B.b0
    rw [E.2.2.1]
  · show (if s = 0 then C.b1 else v) = if s = 0 then B.b1 else v
    rw [E.2.2.2.1]
theorem EqB.nxE (E : EqB B C) : nx C i = nx B i := by show (if i + 1 < 2 * C.w then _ else _) = _; rw [E.1]; rfl
theorem EqB.ntkE (E : EqB B C) (O : BoOK B) : ∀ (k : Nat) (a : Int), 0 ≤ a → ntk C st k a = ntk B st k a := by
  intro k
  induction k with
  | zero => intro a _; rfl
  | succ k ih =>
    intro a h0
    have hn := nx_r (i := a) O h0
    show (if nx C a ≠ st ∧ C.tk (nx C a) = true then nx C a else ntk C st k (nx C a)) = if nx B a ≠ st ∧ B.tk (nx B a) = true then nx B a else ntk B st k (nx B a)
    rw [E.nxE, E.tk hn.1 hn.2, ih _ hn.1]
theorem EqB.sprE : ∀ (k : Nat) (B C : Bo) (a : Int), EqB B C → BoOK B → BoOK C → 0 ≤ a → a < 2 * B.w → (spr st k C a).1 = (spr st k B a).1 ∧ EqB (spr st k B a).2 (spr st k C a).2 := by
  intro k
  induction k with
  | zero => intro B C a E _ _ _ _; exact ⟨rfl, E⟩
  | succ k ih =>
    intro B C a E O O' h0 h1
    have hw5 := O.w5
    unfold spr
    rw [E.1, E.ntkE O _ a h0]
    rcases ntk_r (st := st) O (2 * B.w).toNat a h0 with e | ⟨e1, e2, e3, e4⟩
    · rw [if_pos e, if_pos e, E.2.1, E.bn]
      exact ⟨rfl, E.setBn⟩
    · rw [if_neg (by omega), if_neg (by omega), (E.2.2.2.2.2 _ e1 e2).2]
      have ht := tk_lt e4
      have hsi := si_r O e1 (by omega)
      exact ih _ _ _ (E.setS O O' e1 (by omega)) (ok_setS O (by omega) (by omega)) (ok_setS O' (by omega) (by omega)) e1 e2
theorem EqB.rpE : ∀ (k : Nat) (B C : Bo) (a : Int), EqB B C → BoOK B → BoOK C → B.bn B.t + 99 * (k : Int) ≤ 2000000 → 0 ≤ a → a < 2 * B.w → EqB (rp k B a) (rp k C a) := by
  intro k
  induction k with
  | zero => intro B C a E _ _ _ _ _; exact E
  | succ k ih =>
    intro B C a E O O' hb h0 h1
    have hw5 := O.w5
    have hw2 := O.w2
    have hsi := si_r O h0 (by omega)
    have hbn := bn_r (s := B.t) O
    unfold rp
    rw [E.1, E.2.1, E.yl h0 h1, E.bn, (E.2.2.2.2.2 a h0 h1).2]
    by_cases e : sd B.w a ≠ B.t ∧ B.yl a = true
    · rw [if_pos e, if_pos e]
      have hbb : ((B.setBn B.t (B.bn B.t + B.si a)).setS a 0).bn B.t = B.bn B.t + B.si a := bn_setBn
      have O1 := ok_setBn (s := B.t) O (v := B.bn B.t + B.si a) (by omega) (by omega)
      have O1' := ok_setBn (s := B.t) O' (v := B.bn B.t + B.si a) (by omega) (by omega)
      exact ih _ _ _ (E.setBn.setS O1 O1' h0 (by omega)) (ok_setS O1 (by omega) (by omega)) (ok_setS O1' (by omega) (by omega)) (by show ((B.setBn B.t (B.bn B.t + B.si a)).setS a 0).bn B.t + _ ≤ _; rw [hbb]; omega) (by split <;> omega) (by show _ < 2 * B.w; split <;> omega)
    · rw [if_neg e, if_neg e]; exact E
theorem EqB.sowE {i : Int} (E : EqB B C) (O : BoOK B) (O' : BoOK C) (hb : B.bn B.t + 500 ≤ 2000000) (h0 : 0 ≤ i) (h1 : i < 2 * B.w) : EqB (sowC B i) (sowC C i) := by
  have hw5 := O.w5
  have hw2 := O.w2
  have hli := li_r O h0 (by omega)
  have hsi := si_r O h0 (by omega)
  have E1 := E.setS (v := B.si i - B.li i) O O' h0 (by omega)
  obtain ⟨e1, E2⟩ := EqB.sprE (st := i) (B.li i).toNat _ _ i E1 (ok_setS O (by omega) (by omega)) (ok_setS O' (by omega) (by omega)) h0 h1
  obtain ⟨g1, g2, g3, g4⟩ := spr_ok (st := i) (B.li i).toNat (B.setS i (B.si i - B.li i)) i (ok_setS O (by omega) (by omega)) (by show B.bn B.t + 99 ≤ _; omega) (by omega) h0 h1
  have hC : C.bn C.t = B.bn B.t := by rw [E.bn, E.2.1]
  obtain ⟨f1, -, -, -⟩ := spr_ok (st := i) (B.li i).toNat (C.setS i (B.si i - B.li i)) i (ok_setS O' (by omega) (by omega)) (by show C.bn C.t + 99 ≤ _; omega) (by omega) h0 (by show i < 2 * C.w; rw [E.1]; exact h1)
  unfold sowC
  rw [E.li h0 h1, (E.2.2.2.2.2 i h0 h1).2, e1, E.1]
  generalize spr i (B.li i).toNat (B.setS i (B.si i - B.li i)) i = p at g1 g2 g3 g4 E2 ⊢
  generalize spr i (B.li i).toNat (C.setS i (B.si i - B.li i)) i = p' at f1 E2 ⊢
  have g2 : Same B p.2 := same_setS.tr g2
  have g4 : (p.1 = -1 ∧ p.2.bn B.t ≤ B.bn B.t + ((B.li i).toNat : Int)) ∨ (0 ≤ p.1 ∧ p.1 < 2 * B.w ∧ p.2.bn B.t = B.bn B.t) := g4
  rcases g4 with ⟨e, g⟩ | ⟨e2, e3, g⟩
  · rw [if_pos e, if_pos e]; exact E2
  · rw [if_neg (by omega), if_neg (by omega)]
    exact EqB.rpE _ _ _ _ E2 g1 f1 (by rw [g2.2.1, g]; omega) e2 (by rw [g2.1]; exact e3)
end EQB
