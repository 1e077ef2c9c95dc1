/-! A board set up. -/
def bd0 (w : Int) : Bo := mkB (List.replicate 10 0) (List.replicate 10 4) 0 0 w 0 0
def stF : Nat → Bo → Int → Bo
  | 0, B, _ => B
  | k + 1, B, c => stF k ((B.setK c 0).setS c 4) (c + 1)
theorem ok_setK {B : Bo} {i v : Int} (O : BoOK B) (h0 : 0 ≤ v) (h1 : v ≤ 4) : BoOK (B.setK i v) := by
  refine ⟨O.w2, O.w5, by show (B.ks.set i.toNat v).length = 10; rw [List.length_set]; exact O.kl, O.sl, fun k hk => ?_, O.sr, O.t01, O.m0, O.mm, O.p0, O.p1, O.q0, O.q1⟩
  show 0 ≤ (B.ks.set i.toNat v).getD k 0 ∧ (B.ks.set i.toNat v).getD k 0 ≤ 4
  rw [gdE, List.getElem?_set]
  have := O.kl
  by_cases e : i.toNat = k
  · rw [if_pos e, if_pos (by omega)]; exact ⟨h0, h1⟩
  · rw [if_neg e, ← gdE]; exact O.kr k hk
def setF (v : Int) : Nat → List Int → Int → List Int
  | 0, xs, _ => xs
  | k + 1, xs, c => setF v k (xs.set c.toNat v) (c + 1)
theorem stF_f : ∀ (k : Nat) (B : Bo) (c : Int), (stF k B c).ks = setF 0 k B.ks c ∧ (stF k B c).ss = setF 4 k B.ss c ∧ (stF k B c).w = B.w := by
  intro k
  induction k with
  | zero => intro B c; exact ⟨rfl, rfl, rfl⟩
  | succ k ih => intro B c; exact ih _ _
theorem setF10 {v : Int} : ∀ xs : List Int, xs.length = 10 → setF v 10 xs 0 = List.replicate 10 v
  | [_, _, _, _, _, _, _, _, _, _], _ => by simp [setF, List.replicate]
theorem setAll {X : Bo} {xs ys : List Int} {w : Int} (e1 : X.ks = xs) (e2 : X.ss = ys) (e3 : X.w = w) : (((X.setBn 0 0).setBn 1 0).setT 0).setM 0 = mkB xs ys 0 0 w 0 0 := by
  rw [← e1, ← e2, ← e3]; rfl
theorem stF_eq {B : Bo} (O : BoOK B) : ((((stF 10 B 0).setBn 0 0).setBn 1 0).setT 0).setM 0 = bd0 B.w :=
  setAll ((stF_f 10 B 0).1.trans (setF10 _ O.kl)) ((stF_f 10 B 0).2.1.trans (setF10 _ O.sl)) (stF_f 10 B 0).2.2
section SU
variable {h : AH} {n d : Nat}
theorem stF_ok : ∀ (k : Nat) (B : Bo) (c : Int), BoOK B → BoOK (stF k B c) := by
  intro k
  induction k with
  | zero => intro B c O; exact O
  | succ k ih => intro B c O; exact ih _ _ (ok_setS (ok_setK O (by omega) (by omega)) (by omega) (by omega))
theorem c_su15 (hl : n + 3 < h.length) {x : Int} : ∀ (k : Nat) (B : Bo) (c : Int), BoOK B → 0 ≤ c → c + (k : Int) = 10 → run (d + 1) m_Bd_setUp 15 [(100, (n : Int)), (0, x), (0, c)] [] (setB h n B) = run (d + 1) m_Bd_setUp 15 [(100, (n : Int)), (0, x), (0, 10)] [] (setB h n (stF k B c)) := by
  intro k
  induction k with
  | zero => intro B c O h0 h1; rw [show c = 10 by omega]; rfl
  | succ k ih =>
    intro B c O h0 h1
    have G : ∀ D : Bo, BdH (setB h n D) n D := fun D => bdH_set hl
    have O1 : BoOK (B.setK c 0) := ok_setK O (by omega) (by omega)
    rw [k_Bd_setUp_15, if_pos (by omega), (G B).rk, Option.bind_some, (G B).wK O h0 (by omega), Option.bind_some, setB_setB hl, (G _).rs, Option.bind_some, (G _).wS O1 h0 (by omega), Option.bind_some, setB_setB hl, add_id (by omega) (by omega)]
    exact ih _ _ (ok_setS O1 (by omega) (by omega)) (by omega) (by omega)
theorem c_setUp {B : Bo} {x : Int} (H : BdH h n B) (O : BoOK (B.setW (a_max 2 (a_min x 5)))) : cal (d + 1) m_Bd_setUp [(100, (n : Int)), (0, x)] h = some (0, setB h n (bd0 (a_max 2 (a_min x 5)))) := by
  have hl := H.lt
  have G : ∀ D : Bo, BdH (setB h n D) n D := fun D => bdH_set hl
  rw [k_Bd_setUp, H.wW, Option.bind_some, c_su15 hl 10 _ 0 O (by omega) (by omega), k_Bd_setUp_15, if_neg (by omega), (G _).rb, Option.bind_some, (G _).wB (Or.inl rfl), Option.bind_some, setB_setB hl, (G _).rb, Option.bind_some, (G _).wB (Or.inr rfl), Option.bind_some, setB_setB hl, (G _).wT, Option.bind_some, setB_setB hl, (G _).wM, Option.bind_some, setB_setB hl]
  have := stF_eq O
  exact congrArg (fun z => some (0, setB h n z)) this
end SU
