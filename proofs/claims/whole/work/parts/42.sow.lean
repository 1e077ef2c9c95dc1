/-! A move, in plain words, and the class's own. -/
def nx (B : Bo) (a : Int) : Int := if a + 1 < 2 * B.w then a + 1 else 0
def ntk (B : Bo) (st : Int) : Nat → Int → Int
  | 0, _ => -1
  | k + 1, a => if nx B a ≠ st ∧ B.tk (nx B a) = true then nx B a else ntk B st k (nx B a)
def spr (st : Int) : Nat → Bo → Int → Int × Bo
  | 0, B, a => (a, B)
  | k + 1, B, a => if ntk B st (2 * B.w).toNat a = -1 then (-1, B.setBn B.t (B.bn B.t + ((k + 1 : Nat) : Int))) else spr st k (B.setS (ntk B st (2 * B.w).toNat a) (B.si (ntk B st (2 * B.w).toNat a) + 1)) (ntk B st (2 * B.w).toNat a)
def rp : Nat → Bo → Int → Bo
  | 0, B, _ => B
  | k + 1, B, a => if sd B.w a ≠ B.t ∧ B.yl a = true then rp k ((B.setBn B.t (B.bn B.t + B.si a)).setS a 0) (if 0 < a then a - 1 else 2 * B.w - 1) else B
def sowC (B : Bo) (i : Int) : Bo := if (spr i (B.li i).toNat (B.setS i (B.si i - B.li i)) i).1 = -1 then (spr i (B.li i).toNat (B.setS i (B.si i - B.li i)) i).2 else rp B.w.toNat (spr i (B.li i).toNat (B.setS i (B.si i - B.li i)) i).2 (spr i (B.li i).toNat (B.setS i (B.si i - B.li i)) i).1
def brg (B : Bo) (i : Int) : Int := (sowC B i).bn B.t - B.bn B.t
def sow (B : Bo) (i : Int) : Bo := ((sowC B i).setT (1 - B.t)).setM (B.m + 1)
section MATH
variable {B : Bo} {i j v st : Int}
theorem si_set (O : BoOK B) (h0 : 0 ≤ i) (h1 : i < 10) (hj : 0 ≤ j) : (B.setS i v).si j = if i = j then v else B.si j := by
  show (B.ss.set i.toNat v).getD j.toNat 0 = _
  rw [gdE, List.getElem?_set]
  have := O.sl
  by_cases e : i = j
  · subst e; rw [if_pos rfl, if_pos (by omega), if_pos rfl]; rfl
  · rw [if_neg (by omega), if_neg e, ← gdE]; rfl
theorem ok_setS (O : BoOK B) (h0 : 0 ≤ v) (h1 : v ≤ 99) : BoOK (B.setS i v) := by
  refine ⟨O.w2, O.w5, O.kl, by show (B.ss.set i.toNat v).length = 10; rw [List.length_set]; exact O.sl, O.kr, fun k hk => ?_, O.t01, O.m0, O.mm, O.p0, O.p1, O.q0, O.q1⟩
  show 0 ≤ (B.ss.set i.toNat v).getD k 0 ∧ (B.ss.set i.toNat v).getD k 0 ≤ 99
  rw [gdE, List.getElem?_set]
  have := O.sl
  by_cases e : i.toNat = k
  · rw [if_pos e, if_pos (by omega)]; exact ⟨h0, h1⟩
  · rw [if_neg e, ← gdE]; exact O.sr k hk
theorem ok_setBn {s : Int} (O : BoOK B) (h0 : 0 ≤ v) (h1 : v ≤ 2000000) : BoOK (B.setBn s v) := by
  refine ⟨O.w2, O.w5, O.kl, O.sl, O.kr, O.sr, O.t01, O.m0, O.mm, ?_, ?_, ?_, ?_⟩
  · show 0 ≤ if s = 0 then v else B.b0
    have := O.p0; split <;> omega
  · show 0 ≤ if s = 0 then B.b1 else v
    have := O.p1; split <;> omega
  · show (if s = 0 then v else B.b0) ≤ 2000000
    have := O.q0; split <;> omega
  · show (if s = 0 then B.b1 else v) ≤ 2000000
    have := O.q1; split <;> omega
theorem si_r (O : BoOK B) (h0 : 0 ≤ i) (h1 : i < 10) : 0 ≤ B.si i ∧ B.si i ≤ 99 := O.sr i.toNat (by omega)
theorem ki_r (O : BoOK B) (h0 : 0 ≤ i) (h1 : i < 10) : 0 ≤ B.ki i ∧ B.ki i ≤ 4 := O.kr i.toNat (by omega)
theorem li_r (O : BoOK B) (h0 : 0 ≤ i) (h1 : i < 10) : 0 ≤ B.li i ∧ B.li i ≤ B.si i := by
  have := si_r O h0 h1
  unfold Bo.li Lk
  split
  · split <;> omega
  · split
    · omega
    · split
      · by_cases e : B.si i = 0
        · rw [e]; decide
        · omega
      · omega
theorem bn_r {s : Int} (O : BoOK B) : 0 ≤ B.bn s ∧ B.bn s ≤ 2000000 := by
  unfold Bo.bn
  have := O.p0; have := O.p1; have := O.q0; have := O.q1
  split <;> omega
theorem tk_lt (h : B.tk i = true) : B.si i < 99 := by
  unfold Bo.tk Tk at h
  split at h
  · cases h
  · split at h
    · have := of_decide_eq_true h; omega
    · exact of_decide_eq_true h
theorem nx_r (O : BoOK B) (h0 : 0 ≤ i) : 0 ≤ nx B i ∧ nx B i < 2 * B.w := by
  have := O.w2
  unfold nx; split <;> omega
theorem ntk_r (O : BoOK B) : ∀ (k : Nat) (a : Int), 0 ≤ a → ntk B st k a = -1 ∨ (0 ≤ ntk B st k a ∧ ntk B st k a < 2 * B.w ∧ ntk B st k a ≠ st ∧ B.tk (ntk B st k a) = true) := by
  intro k
  induction k with
  | zero => intro a _; exact Or.inl rfl
  | succ k ih =>
    intro a h0
    have hn := nx_r O h0
    unfold ntk
    by_cases e : nx B a ≠ st ∧ B.tk (nx B a) = true
    · rw [if_pos e]; exact Or.inr ⟨hn.1, hn.2, e.1, e.2⟩
    · rw [if_neg e]; exact ih _ hn.1
end MATH
section CSOW
variable {h : AH} {n d : Nat} {B : Bo}
theorem c_nt11 (H : BdH h n B) (O : BoOK B) {st x1 : Int} : ∀ (k : Nat) (a c : Int), 0 ≤ a → a < 2 * B.w → 0 ≤ c → c + (k : Int) = 2 * B.w → run (d + 2) m_Bd_nextTaker 11 [(100, (n : Int)), (0, x1), (0, st), (0, a), (0, 2 * B.w), (0, c)] [] h = some (ntk B st k a, h) := by
  have hw2 := O.w2
  have hw5 := O.w5
  intro k
  induction k with
  | zero => intro a c _ _ _ _; rw [k_Bd_nextTaker_11, if_neg (by omega)]; rfl
  | succ k ih =>
    intro a c h0 h1 h2 h3
    rw [k_Bd_nextTaker_11, if_pos (by omega), add_id (x := a) (by omega) (by omega), add_id (x := c) (by omega) (by omega)]
    unfold ntk nx
    by_cases hn : a + 1 < 2 * B.w
    · rw [if_pos hn, if_pos hn]
      by_cases hs : a + 1 = st
      · rw [if_pos hs, if_neg (fun z => z.1 hs), ih (a + 1) (c + 1) (by omega) (by omega) (by omega) (by omega)]
      · rw [if_neg hs, H.rk, Option.bind_some, H.kA O (by omega) (by omega), Option.bind_some, H.rs, Option.bind_some, H.sA O (by omega) (by omega), Option.bind_some, c_takes, Option.bind_some]
        show (if bI (B.tk (a + 1)) = 0 then _ else _) = _
        cases ht : B.tk (a + 1) with
        | false => rw [if_pos (show bI false = 0 from rfl), if_neg (fun z => by cases z.2)]; exact ih (a + 1) (c + 1) (by omega) (by omega) (by omega) (by omega)
        | true => rw [if_neg (by decide), if_pos ⟨hs, rfl⟩]
    · rw [if_neg hn, if_neg hn]
      by_cases hs : 0 = st
      · rw [if_pos hs, if_neg (fun z => z.1 hs), ih 0 (c + 1) (by omega) (by omega) (by omega) (by omega)]
      · rw [if_neg hs, H.rk, Option.bind_some, H.kA O (by omega) (by omega), Option.bind_some, H.rs, Option.bind_some, H.sA O (by omega) (by omega), Option.bind_some, c_takes, Option.bind_some]
        show (if bI (B.tk 0) = 0 then _ else _) = _
        cases ht : B.tk 0 with
        | false => rw [if_pos (show bI false = 0 from rfl), if_neg (fun z => by cases z.2)]; exact ih 0 (c + 1) (by omega) (by omega) (by omega) (by omega)
        | true => rw [if_neg (by decide), if_pos ⟨hs, rfl⟩]
theorem c_nt (H : BdH h n B) (O : BoOK B) {st a : Int} (h0 : 0 ≤ a) (h1 : a < 2 * B.w) : cal (d + 2) m_Bd_nextTaker [(100, (n : Int)), (0, a), (0, st)] h = some (ntk B st (2 * B.w).toNat a, h) := by
  have hw2 := O.w2
  rw [k_Bd_nextTaker, c_houses H O, Option.bind_some]
  exact c_nt11 H O (2 * B.w).toNat a 0 h0 h1 (by omega) (by omega)
theorem c_spr (hl : n + 3 < h.length) {st : Int} : ∀ (k : Nat) (B : Bo) (a : Int) (v : AV), BoOK B → B.bn B.t + 99 ≤ 2000000 → k ≤ 99 → 0 ≤ a → a < 2 * B.w → run (d + 3) m_Bd_spread 18 [(100, (n : Int)), (0, st), (0, (k : Int)), (0, a), v] [] (setB h n B) = some ((spr st k B a).1, setB h n (spr st k B a).2) := by
  intro k
  induction k with
  | zero => intro B a v O _ _ _ _; rw [k_Bd_spread_18, if_neg (by omega)]; rfl
  | succ k ih =>
    intro B a v O hb hk h0 h1
    have H : BdH (setB h n B) n B := bdH_set hl
    have hw5 := O.w5
    have hbn := bn_r (s := B.t) O
    rw [k_Bd_spread_18, if_pos (by omega), c_nt H O h0 h1, Option.bind_some]
    unfold spr
    show (if ntk B st (2 * B.w).toNat a = -1 then _ else _) = _
    rcases ntk_r (st := st) O (2 * B.w).toNat a h0 with e | ⟨e1, e2, e3, e4⟩
    · rw [if_pos e, if_pos e]
      show (rdr 0 (setB h n B) (n : Int) 2).bind _ = _
      rw [H.rb, Option.bind_some]
      show (rdf 0 (setB h n B) (n : Int) 4).bind _ = _
      rw [H.rt, Option.bind_some]
      show (rda 20 (setB h n B) ((n + 3 : Nat) : Int) B.t).bind _ = _
      rw [H.rB O.t01, Option.bind_some, add_id (by omega) (by omega)]
      show (wra 20 (setB h n B) ((n + 3 : Nat) : Int) B.t (B.bn B.t + ((k + 1 : Nat) : Int))).bind _ = _
      rw [H.wB O.t01, Option.bind_some, setB_setB hl]
    · have ht := tk_lt e4
      have hsi := si_r O e1 (by omega)
      rw [if_neg (by omega), if_neg (by omega)]
      show (rdr 0 (setB h n B) (n : Int) 1).bind _ = _
      rw [H.rs, Option.bind_some]
      show (rda 20 (setB h n B) ((n + 2 : Nat) : Int) (ntk B st (2 * B.w).toNat a)).bind _ = _
      rw [H.sA O e1 (by omega), Option.bind_some]
      show (wra 20 (setB h n B) ((n + 2 : Nat) : Int) (ntk B st (2 * B.w).toNat a) (a_add (B.si (ntk B st (2 * B.w).toNat a)) 1)).bind _ = _
      rw [add_id (by omega) (by omega), H.wS O e1 (by omega), Option.bind_some, setB_setB hl, add_id (by omega) (by omega), show (((k + 1 : Nat) : Int) + -1) = (k : Int) by omega]
      exact ih _ _ _ (ok_setS O (by omega) (by omega)) hb (by omega) e1 e2
theorem c_rp (hl : n + 3 < h.length) {x : Int} : ∀ (k : Nat) (B : Bo) (a c : Int), BoOK B → B.bn B.t + 99 * (k : Int) ≤ 2000000 → 0 ≤ a → a < 2 * B.w → 0 ≤ c → c + (k : Int) = B.w → run (d + 3) m_Bd_reap 4 [(100, (n : Int)), (0, x), (0, a), (0, c)] [] (setB h n B) = some (0, setB h n (rp k B a)) := by
  intro k
  induction k with
  | zero => intro B a c O _ _ _ _ _; have H : BdH (setB h n B) n B := bdH_set hl; rw [k_Bd_reap_4, H.rw, Option.bind_some, if_neg (by omega)]; rfl
  | succ k ih =>
    intro B a c O hb h0 h1 h2 h3
    have H : BdH (setB h n B) n B := bdH_set hl
    have hw5 := O.w5
    have hw2 := O.w2
    have hbn := bn_r (s := B.t) O
    have hsi := si_r O h0 (by omega)
    rw [k_Bd_reap_4, H.rw, Option.bind_some, if_pos (by omega), c_sideOf H, Option.bind_some]
    unfold rp
    show (rdf 0 (setB h n B) (n : Int) 4).bind _ = _
    rw [H.rt, Option.bind_some]
    show (if sd B.w a = B.t then _ else _) = _
    by_cases e : sd B.w a = B.t
    · rw [if_pos e, if_neg (fun z => z.1 e)]
    · rw [if_neg e]
      show (cal (d + 2) m_Bd_yields [(100, (n : Int)), (0, a)] (setB h n B)).bind _ = _
      rw [c_bYields H O h0 (by omega), Option.bind_some]
      show (if bI (B.yl a) = 0 then _ else _) = _
      cases hy : B.yl a with
      | false => rw [if_pos (show bI false = 0 from rfl), if_neg (fun z => by cases z.2)]
      | true =>
        rw [if_neg (by decide), if_pos ⟨e, rfl⟩]
        show (rdr 0 (setB h n B) (n : Int) 2).bind _ = _
        rw [H.rb, Option.bind_some]
        show (rdf 0 (setB h n B) (n : Int) 4).bind _ = _
        rw [H.rt, Option.bind_some]
        show (rda 20 (setB h n B) ((n + 3 : Nat) : Int) B.t).bind _ = _
        rw [H.rB O.t01, Option.bind_some]
        show (rdr 0 (setB h n B) (n : Int) 1).bind _ = _
        rw [H.rs, Option.bind_some]
        show (rda 20 (setB h n B) ((n + 2 : Nat) : Int) a).bind _ = _
        rw [H.sA O h0 (by omega), Option.bind_some]
        show (wra 20 (setB h n B) ((n + 3 : Nat) : Int) B.t (a_add (B.bn B.t) (B.si a))).bind _ = _
        rw [add_id (by omega) (by omega), H.wB O.t01, Option.bind_some, setB_setB hl]
        have O1 : BoOK (B.setBn B.t (B.bn B.t + B.si a)) := ok_setBn O (by omega) (by omega)
        have H1 : BdH (setB h n (B.setBn B.t (B.bn B.t + B.si a))) n (B.setBn B.t (B.bn B.t + B.si a)) := bdH_set hl
        rw [H1.rs, Option.bind_some, H1.wS O1 h0 (by omega), Option.bind_some, setB_setB hl]
        have O2 : BoOK ((B.setBn B.t (B.bn B.t + B.si a)).setS a 0) := ok_setS O1 (by omega) (by omega)
        have H2 : BdH (setB h n ((B.setBn B.t (B.bn B.t + B.si a)).setS a 0)) n ((B.setBn B.t (B.bn B.t + B.si a)).setS a 0) := bdH_set hl
        have hbb : ((B.setBn B.t (B.bn B.t + B.si a)).setS a 0).bn ((B.setBn B.t (B.bn B.t + B.si a)).setS a 0).t = B.bn B.t + B.si a := by
          show (if B.t = 0 then (if B.t = 0 then _ else _) else (if B.t = 0 then _ else _)) = _
          by_cases z : B.t = 0 <;> simp [z]
        by_cases ha : 0 < a
        · rw [if_pos ha, if_pos ha, sub_id (by omega) (by omega), add_id (by omega) (by omega)]
          exact ih _ _ _ O2 (by rw [hbb]; omega) (by omega) (by show a - 1 < 2 * B.w; omega) (by omega) (by show c + 1 + (k : Int) = B.w; omega)
        · rw [if_neg ha, if_neg ha, c_houses H2 O2, Option.bind_some]
          show run (d + 3) m_Bd_reap 4 [(100, (n : Int)), (0, x), (0, a_sub (2 * B.w) 1), (0, a_add c 1)] [] _ = _
          rw [sub_id (by omega) (by omega), add_id (by omega) (by omega)]
          exact ih _ _ _ O2 (by rw [hbb]; omega) (by omega) (by show 2 * B.w - 1 < 2 * B.w; omega) (by omega) (by show c + 1 + (k : Int) = B.w; omega)
end CSOW
