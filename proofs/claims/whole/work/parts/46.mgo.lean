/-! The model's move, ended. -/
def fin (B : Bo) (v : Int) : Bo := ((B.setBn B.t v).setT (1 - B.t)).setM (B.m + 1)
section MGO
variable {h : AH} {q d : Nat} {st : Int}
theorem m_202 {B : Bo} (H : MnH h q B) (O : BoOK B) {x3 x4 x5 x6 : Int} (h0 : 0 ≤ x5) (h1 : x5 ≤ 1000) : run (d + 1) m_Mo_goes 202 [(107, (q : Int)), (0, st), (0, B.t), (0, x3), (0, x4), (0, x5), (0, x6)] [] h = some (x5, setN h q (fin B (B.bn B.t + x5))) := by
  have hbn := bn_r (s := B.t) O
  have hm0 := O.m0
  have hmm := O.mm
  have t01 := O.t01
  rw [k_Mo_goes_202, H.now, Option.bind_some, H.rB O.t01, Option.bind_some, add_id (x := B.bn B.t) (by omega) (by omega), H.wB O O.t01, Option.bind_some]
  have H1 := H.set (B.setBn B.t (B.bn B.t + x5))
  have L1 : (row (B.setBn B.t (B.bn B.t + x5))).length = 25 := by simp [row, show (B.setBn B.t (B.bn B.t + x5)).ks.length = 10 from O.kl, show (B.setBn B.t (B.bn B.t + x5)).ss.length = 10 from O.sl]
  have e1 : wra 20 (setN h q (B.setBn B.t (B.bn B.t + x5))) ((q + 1 : Nat) : Int) 1 (1 - B.t) = some (setN (setN h q (B.setBn B.t (B.bn B.t + x5))) q ((B.setBn B.t (B.bn B.t + x5)).setT (1 - B.t))) := by
    rw [wra_i H1.2 (by omega) (by rw [L1]; decide)]; rfl
  rw [H1.now, Option.bind_some, sub_id (by omega) (by omega), e1, Option.bind_some, setN_setN]
  have H2 := H.set ((B.setBn B.t (B.bn B.t + x5)).setT (1 - B.t))
  have L2 : (row ((B.setBn B.t (B.bn B.t + x5)).setT (1 - B.t))).length = 25 := L1
  have e2 : wra 20 (setN h q ((B.setBn B.t (B.bn B.t + x5)).setT (1 - B.t))) ((q + 1 : Nat) : Int) 4 (B.m + 1) = some (setN (setN h q ((B.setBn B.t (B.bn B.t + x5)).setT (1 - B.t))) q (((B.setBn B.t (B.bn B.t + x5)).setT (1 - B.t)).setM (B.m + 1))) := by
    rw [wra_i H2.2 (by omega) (by rw [L2]; decide)]; rfl
  rw [H2.now, Option.bind_some, H2.rm, Option.bind_some, show ((B.setBn B.t (B.bn B.t + x5)).setT (1 - B.t)).m = B.m from rfl, add_id (by omega) (by omega), e2, Option.bind_some, setN_setN]
  rfl
theorem setBn2 {B : Bo} {s u v : Int} : (B.setBn s u).setBn s v = B.setBn s v := by
  unfold Bo.setBn
  by_cases z : s = 0 <;> simp [z, mkB, Bo.ks, Bo.ss, Bo.b0, Bo.b1, Bo.w, Bo.t, Bo.m] <;> rfl
theorem setBn_self {B : Bo} {s : Int} : B.setBn s (B.bn s) = B := by
  unfold Bo.setBn Bo.bn
  by_cases z : s = 0 <;> simp [z, mkB, Bo.ks, Bo.ss, Bo.b0, Bo.b1, Bo.w, Bo.t, Bo.m] <;> rfl
theorem setBnS {B : Bo} {s u i v : Int} : (B.setBn s u).setS i v = (B.setS i v).setBn s u := rfl
/-- the model takes all in hand; the class, house by house: B is the class's board, e the model's barn -/
theorem m_125 {q0 : Bo} (H0 : MnH h q q0) {x3 : Int} : ∀ (k : Nat) (B : Bo) (e a c : Int), BoOK B → 0 ≤ e → e ≤ 1500000 → B.bn B.t + 99 * (k : Int) ≤ 2000000 → 0 ≤ c → c + 99 * (k : Int) ≤ 1000 → 0 ≤ a → a < 2 * B.w → (sd B.w a ≠ B.t → (if B.t = 0 then a - B.w + 1 else a + 1) ≤ (k : Int)) → run (d + 2) m_Mo_goes 125 [(107, (q : Int)), (0, st), (0, B.t), (0, x3), (0, a), (0, c), (0, 1)] [] (setN h q (B.setBn B.t e)) = some (c + ((rp k B a).bn B.t - B.bn B.t), setN h q (fin (rp k B a) (e + (c + ((rp k B a).bn B.t - B.bn B.t))))) := by
  intro k
  induction k with
  | zero =>
    intro B e a c O he he2 hb hc hc2 h0 h1 hm
    have H : MnH (setN h q (B.setBn B.t e)) q (B.setBn B.t e) := H0.set _
    have hw2 := O.w2
    have hs : sd B.w a = B.t := by
      by_cases z : sd B.w a = B.t
      · exact z
      · have := hm z
        have t01 := O.t01
        unfold sd at z
        split at this <;> split at z <;> omega
    have O1 : BoOK (B.setBn B.t e) := ok_setBn O he (by omega)
    rw [k_Mo_goes_125, if_neg (by decide), m_sideOf H, Option.bind_some]
    show (if sd B.w a = B.t then _ else _) = _
    rw [if_pos hs]
    show run (d + 2) m_Mo_goes 202 [(107, (q : Int)), (0, st), (0, (B.setBn B.t e).t), (0, x3), (0, a), (0, c), (0, 1)] [] (setN h q (B.setBn B.t e)) = _
    rw [m_202 H O1 hc (by omega), setN_setN]
    show some (c, setN h q (fin (B.setBn B.t e) ((B.setBn B.t e).bn B.t + c))) = _
    rw [bn_setBn]
    show _ = some (c + (B.bn B.t - B.bn B.t), setN h q (fin B (e + (c + (B.bn B.t - B.bn B.t)))))
    rw [show c + (B.bn B.t - B.bn B.t) = c by omega]
    have : fin (B.setBn B.t e) (e + c) = fin B (e + c) := by
      show (((B.setBn B.t e).setBn B.t (e + c)).setT (1 - B.t)).setM (B.m + 1) = _
      rw [setBn2]; rfl
    rw [this]
  | succ k ih =>
    intro B e a c O he he2 hb hc hc2 h0 h1 hm
    have H : MnH (setN h q (B.setBn B.t e)) q (B.setBn B.t e) := H0.set _
    have hw2 := O.w2
    have hw5 := O.w5
    have hbn := bn_r (s := B.t) O
    have hsi := si_r O h0 (by omega)
    have hki := ki_r O h0 (by omega)
    have O1 : BoOK (B.setBn B.t e) := ok_setBn O he (by omega)
    have hstop : run (d + 2) m_Mo_goes 202 [(107, (q : Int)), (0, st), (0, B.t), (0, x3), (0, a), (0, c), (0, 1)] [] (setN h q (B.setBn B.t e)) = some (c + (B.bn B.t - B.bn B.t), setN h q (fin B (e + (c + (B.bn B.t - B.bn B.t))))) := by
      show run (d + 2) m_Mo_goes 202 [(107, (q : Int)), (0, st), (0, (B.setBn B.t e).t), (0, x3), (0, a), (0, c), (0, 1)] [] (setN h q (B.setBn B.t e)) = _
      rw [m_202 H O1 hc (by omega), setN_setN]
      show some (c, setN h q (fin (B.setBn B.t e) ((B.setBn B.t e).bn B.t + c))) = _
      rw [bn_setBn, show c + (B.bn B.t - B.bn B.t) = c by omega]
      have : fin (B.setBn B.t e) (e + c) = fin B (e + c) := by
        show (((B.setBn B.t e).setBn B.t (e + c)).setT (1 - B.t)).setM (B.m + 1) = _
        rw [setBn2]; rfl
      rw [this]
    rw [k_Mo_goes_125, if_neg (by decide), m_sideOf H, Option.bind_some]
    unfold rp
    show (if sd B.w a = B.t then _ else _) = _
    by_cases z : sd B.w a = B.t
    · rw [if_pos z, if_neg (fun y => y.1 z)]
      exact hstop
    · rw [if_neg z]
      have hm := hm z
      show (rdr 7 (setN h q (B.setBn B.t e)) (q : Int) 0).bind _ = _
      rw [H.now, Option.bind_some]
      show (rda 20 (setN h q (B.setBn B.t e)) ((q + 1 : Nat) : Int) (a_add 5 a)).bind _ = _
      rw [H.rk O1 h0 (by omega), Option.bind_some, Option.bind_some]
      show (rda 20 (setN h q (B.setBn B.t e)) ((q + 1 : Nat) : Int) (a_add 15 a)).bind _ = _
      rw [H.rs O1 h0 (by omega), Option.bind_some]
      show (cal (d + 1) m_Mo_yieldsAll [(0, B.ki a), (0, B.si a)] (setN h q (B.setBn B.t e))).bind _ = _
      rw [m_yieldsAll hki.1 hki.2, Option.bind_some]
      show (if bI (B.yl a) = 0 then _ else _) = _
      cases hy : B.yl a with
      | false =>
        rw [if_pos (show bI false = 0 from rfl), if_neg (fun y => by cases y.2)]
        exact hstop
      | true =>
        rw [if_neg (by decide), if_pos ⟨z, rfl⟩]
        show (rdr 7 (setN h q (B.setBn B.t e)) (q : Int) 0).bind _ = _
        rw [H.now, Option.bind_some]
        show (rda 20 (setN h q (B.setBn B.t e)) ((q + 1 : Nat) : Int) (a_add 15 a)).bind _ = _
        rw [H.rs O1 h0 (by omega), Option.bind_some, Option.bind_some]
        show (wra 20 (setN h q (B.setBn B.t e)) ((q + 1 : Nat) : Int) (a_add 15 a) 0).bind _ = _
        rw [H.ws O1 h0 (by omega), Option.bind_some, setN_setN]
        have H2 : MnH (setN h q ((B.setBn B.t e).setS a 0)) q ((B.setBn B.t e).setS a 0) := H0.set _
        have O2 : BoOK ((B.setBn B.t e).setS a 0) := ok_setS O1 (by omega) (by omega)
        rw [m_ahead H2 O2 h0 h1, Option.bind_some]
        have hbb : ((B.setBn B.t (B.bn B.t + B.si a)).setS a 0).bn B.t = B.bn B.t + B.si a := bn_setBn
        have hh : (B.setBn B.t e).setS a 0 = ((B.setBn B.t (B.bn B.t + B.si a)).setS a 0).setBn B.t e := by
          rw [setBnS, setBnS, setBn2]
        rw [hh]
        have t01 := O.t01
        have := ih ((B.setBn B.t (B.bn B.t + B.si a)).setS a 0) e (if 0 < a then a - 1 else 2 * B.w - 1) (c + B.si a) (ok_setS (ok_setBn O (by omega) (by omega)) (by omega) (by omega)) he he2 (by show ((B.setBn B.t (B.bn B.t + B.si a)).setS a 0).bn B.t + _ ≤ _; rw [hbb]; omega) (by omega) (by omega) (by split <;> omega) (by show _ < 2 * B.w; split <;> omega) (by
          show sd B.w (if 0 < a then a - 1 else 2 * B.w - 1) ≠ B.t → (if B.t = 0 then (if 0 < a then a - 1 else 2 * B.w - 1) - B.w + 1 else (if 0 < a then a - 1 else 2 * B.w - 1) + 1) ≤ (k : Int)
          intro y
          unfold sd at y z
          rcases t01 with t | t
          · rw [t] at y z hm ⊢
            simp only [if_true] at hm ⊢
            split <;> split at z <;> split at y <;> omega
          · rw [t] at y z hm ⊢
            simp only [show ¬ ((1 : Int) = 0) by decide, if_false] at hm ⊢
            split <;> split at z <;> split at y <;> omega)
        show run (d + 2) m_Mo_goes 125 [(107, (q : Int)), (0, st), (0, B.t), (0, x3), (0, if 0 < a then a - 1 else 2 * B.w - 1), (0, a_add c (B.si a)), (0, 1)] [] (setN h q (((B.setBn B.t (B.bn B.t + B.si a)).setS a 0).setBn B.t e)) = _
        rw [add_id (by omega) (by omega)]
        refine this.trans ?_
        show some (c + B.si a + ((rp k ((B.setBn B.t (B.bn B.t + B.si a)).setS a 0) _).bn B.t - ((B.setBn B.t (B.bn B.t + B.si a)).setS a 0).bn B.t), setN h q (fin _ (e + (c + B.si a + ((rp k ((B.setBn B.t (B.bn B.t + B.si a)).setS a 0) _).bn B.t - ((B.setBn B.t (B.bn B.t + B.si a)).setS a 0).bn B.t))))) = _
        rw [hbb]
        generalize rp k ((B.setBn B.t (B.bn B.t + B.si a)).setS a 0) (if 0 < a then a - 1 else 2 * B.w - 1) = R
        rw [show c + B.si a + (R.bn B.t - (B.bn B.t + B.si a)) = c + (R.bn B.t - B.bn B.t) by omega]
end MGO
