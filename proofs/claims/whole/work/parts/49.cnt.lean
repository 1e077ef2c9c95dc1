/-! All seeds, and the houses that go, on both sides. -/
def sumF (B : Bo) : Nat → Int → Int → Int
  | 0, x, _ => x
  | k + 1, x, c => sumF B k (x + B.si c) (c + 1)
noncomputable def goF (B : Bo) : Nat → Int → Int → Int
  | 0, x, _ => x
  | k + 1, x, c => goF B k (if B.go c = true then a_or x (a_shl 1 c) else a_or x 0) (c + 1)
section CNT
variable {h : AH} {n q d : Nat} {B : Bo}
theorem c_all4 (H : BdH h n B) (O : BoOK B) : ∀ (k : Nat) (x c : Int), 0 ≤ c → c + (k : Int) = 2 * B.w → 0 ≤ x → x ≤ 99 * c → run (d + 2) m_Bd_allSeeds 4 [(100, (n : Int)), (0, x), (0, c)] [] h = some (sumF B k x c, h) := by
  have hw5 := O.w5
  intro k
  induction k with
  | zero => intro x c h0 h1 h2 h3; rw [k_Bd_allSeeds_4, c_houses H O, Option.bind_some, if_neg (by show ¬ c < 2 * B.w; omega)]; rfl
  | succ k ih =>
    intro x c h0 h1 h2 h3
    have hs := si_r O h0 (by omega)
    rw [k_Bd_allSeeds_4, c_houses H O, Option.bind_some, if_pos (by show c < 2 * B.w; omega)]
    show (rdr 0 h (n : Int) 1).bind _ = _
    rw [H.rs, Option.bind_some]
    show (rda 20 h ((n + 2 : Nat) : Int) c).bind _ = _
    rw [H.sA O h0 (by omega), Option.bind_some]
    show run (d + 2) m_Bd_allSeeds 4 [(100, (n : Int)), (0, a_add x (B.si c)), (0, a_add c 1)] [] h = _
    rw [add_id (by omega) (by omega), add_id (by omega) (by omega)]
    exact ih _ _ (by omega) (by omega) (by omega) (by omega)
theorem m_all4 (H : MnH h q B) (O : BoOK B) : ∀ (k : Nat) (x c : Int), 0 ≤ c → c + (k : Int) = 2 * B.w → 0 ≤ x → x ≤ 99 * c → run (d + 1) m_Mo_seedsOfAll 4 [(107, (q : Int)), (0, x), (0, c)] [] h = some (sumF B k x c, h) := by
  have hw5 := O.w5
  have hw2 := O.w2
  intro k
  induction k with
  | zero => intro x c h0 h1 h2 h3; rw [k_Mo_seedsOfAll_4, H.now, Option.bind_some, H.rw0, Option.bind_some, mul_id (by omega) (by omega), if_neg (by omega)]; rfl
  | succ k ih =>
    intro x c h0 h1 h2 h3
    have hs := si_r O h0 (by omega)
    rw [k_Mo_seedsOfAll_4, H.now, Option.bind_some, H.rw0, Option.bind_some, mul_id (by omega) (by omega), if_pos (by omega), Option.bind_some, H.rs O h0 (by omega), Option.bind_some, add_id (by omega) (by omega), add_id (by omega) (by omega)]
    exact ih _ _ (by omega) (by omega) (by omega) (by omega)
theorem c_go4 (H : BdH h n B) (O : BoOK B) : ∀ (k : Nat) (x c : Int), 0 ≤ c → c + (k : Int) = 2 * B.w → run (d + 4) m_Bd_goingBits 4 [(100, (n : Int)), (0, x), (0, c)] [] h = some (goF B k x c, h) := by
  have hw5 := O.w5
  intro k
  induction k with
  | zero => intro x c h0 h1; rw [k_Bd_goingBits_4, c_houses H O, Option.bind_some, if_neg (by show ¬ c < 2 * B.w; omega)]; rfl
  | succ k ih =>
    intro x c h0 h1
    rw [k_Bd_goingBits_4, c_houses H O, Option.bind_some, if_pos (by show c < 2 * B.w; omega)]
    show (cal (d + 3) m_Bd_goes [(100, (n : Int)), (0, c)] h).bind _ = _
    rw [c_bGoes H O h0 (by omega), Option.bind_some, add_id (by omega) (by omega)]
    unfold goF
    cases hg : B.go c with
    | false => exact ih _ _ (by omega) (by omega)
    | true => exact ih _ _ (by omega) (by omega)
theorem m_go4 (H : MnH h q B) (O : BoOK B) : ∀ (k : Nat) (x c : Int), 0 ≤ c → c + (k : Int) = 2 * B.w → run (d + 4) m_Mo_goers 4 [(107, (q : Int)), (0, x), (0, c)] [] h = some (goF B k x c, h) := by
  have hw5 := O.w5
  have hw2 := O.w2
  intro k
  induction k with
  | zero => intro x c h0 h1; rw [k_Mo_goers_4, H.now, Option.bind_some, H.rw0, Option.bind_some, mul_id (by omega) (by omega), if_neg (by omega)]; rfl
  | succ k ih =>
    intro x c h0 h1
    rw [k_Mo_goers_4, H.now, Option.bind_some, H.rw0, Option.bind_some, mul_id (by omega) (by omega), if_pos (by omega), m_canGo H O h0 (by omega), Option.bind_some, add_id (by omega) (by omega)]
    unfold goF
    cases hg : B.go c with
    | false => exact ih _ _ (by omega) (by omega)
    | true => exact ih _ _ (by omega) (by omega)
end CNT
