/-! Words and numbers, on the class's side. -/
def eqW (L : List Int) : Nat → List Int → Bool
  | _, [] => true
  | b, c :: cs => decide (L.getD b 0 = c) && eqW L (b + 1) cs
def isW (L : List Int) (b e : Nat) (s : List Int) : Bool := decide (e = b + s.length) && eqW L b s
def cwd (L : List Int) (b e : Nat) : Int := if isW L b e [112, 108, 97, 105, 110] = true then 0 else if isW L b e [100, 101, 101, 112] = true then 1 else if isW L b e [114, 105, 99, 104] = true then 2 else if isW L b e [98, 97, 114, 114, 101, 100] = true then 3 else if isW L b e [109, 101, 97, 110] = true then 4 else if isW L b e [98, 111, 97, 114, 100] = true then 5 else if isW L b e [115, 101, 101, 100, 115] = true then 6 else if isW L b e [98, 97, 114, 110] = true then 7 else if isW L b e [116, 117, 114, 110] = true then 8 else -1
def numV (L : List Int) (b : Nat) : Nat → Int
  | 0 => 0
  | n + 1 => 10 * numV L b n + L.getD (b + n) 0 - 48
section CW
variable {h : AH} {L : List Int} {le cl : Int} {d : Nat}
theorem c_isW20 (H : TH h L le) {b e : Nat} {w : Nat} {s : List Int} (hs : am_str[w]? = some s) (sl : s.length ≤ 6) (be : b + s.length ≤ 200) : ∀ (k i : Nat), i + k = s.length → run (d + 1) m_Te_isWord 20 [(105, 18), (3, (w : Int)), (0, (i : Int))] [] (tS h le cl (b : Int) (e : Int)) = some (bI (eqW L (b + i) (s.drop i)), tS h le cl (b : Int) (e : Int)) := by
  have sL : strl (w : Int) = some (s.length : Int) := by unfold strl; rw [Int.toNat_natCast, hs, Option.bind_some, if_pos (by omega)]; rfl
  intro k
  induction k with
  | zero =>
    intro i ik
    rw [k_Te_isWord_20, sL, Option.bind_some, if_neg (by omega), List.drop_of_length_le (by omega)]
    rfl
  | succ k ih =>
    intro i ik
    have il : i < s.length := by omega
    have sC : strc (w : Int) (i : Int) = some s[i] := by unfold strc; rw [Int.toNat_natCast, hs, Option.bind_some, if_pos (by omega), Int.toNat_natCast]; exact List.getElem?_eq_getElem il
    rw [k_Te_isWord_20, sL, Option.bind_some, if_pos (by omega)]
    simp only [H.r0, H.r3, sC, Option.bind_some]
    rw [add_id (x := (b : Int)) (by omega) (by omega), show (b : Int) + (i : Int) = ((b + i : Nat) : Int) by omega, H.rl (by omega), Option.bind_some, List.drop_eq_getElem_cons il, add_id (by omega) (by omega), show (i : Int) + 1 = ((i + 1 : Nat) : Int) by omega]
    show _ = some (bI (decide (L.getD (b + i) 0 = s[i]) && eqW L (b + (i + 1)) (s.drop (i + 1))), _)
    by_cases z : L.getD (b + i) 0 = s[i]
    · rw [if_pos z, decide_eq_true z, Bool.true_and]
      exact ih (i + 1) (by omega)
    · rw [if_neg z, decide_eq_false z, Bool.false_and]; rfl
theorem c_isWord (H : TH h L le) {b e : Nat} (hb : b ≤ e) (he : (e : Int) ≤ le) {w : Nat} {s : List Int} (hs : am_str[w]? = some s) (sl : s.length ≤ 6) : cal (d + 1) m_Te_isWord [(105, 18), (3, (w : Int))] (tS h le cl (b : Int) (e : Int)) = some (bI (isW L b e s), tS h le cl (b : Int) (e : Int)) := by
  have l2 := H.2.2.2.2.1
  have sL : strl (w : Int) = some (s.length : Int) := by unfold strl; rw [Int.toNat_natCast, hs, Option.bind_some, if_pos (by omega)]; rfl
  rw [k_Te_isWord]
  simp only [H.r4, H.r3, sL, Option.bind_some]
  rw [sub_id (by omega) (by omega)]
  unfold isW
  by_cases z : e = b + s.length
  · rw [if_pos (by omega), decide_eq_true z, Bool.true_and]
    exact c_isW20 H hs sl (by omega) s.length 0 (by omega)
  · rw [if_neg (by omega), decide_eq_false z, Bool.false_and]; rfl
theorem c_word (H : TH h L le) {b e : Nat} (hb : b ≤ e) (he : (e : Int) ≤ le) : cal (d + 2) m_Te_word [(105, 18)] (tS h le cl (b : Int) (e : Int)) = some (cwd L b e, tS h le cl (b : Int) (e : Int)) := by
  have w0 : cal (d + 1) m_Te_isWord [(105, 18), (3, 0)] (tS h le cl (b : Int) (e : Int)) = some (bI (isW L b e [112, 108, 97, 105, 110]), tS h le cl (b : Int) (e : Int)) := c_isWord (w := 0) H hb he rfl (by decide)
  have w1 : cal (d + 1) m_Te_isWord [(105, 18), (3, 1)] (tS h le cl (b : Int) (e : Int)) = some (bI (isW L b e [100, 101, 101, 112]), tS h le cl (b : Int) (e : Int)) := c_isWord (w := 1) H hb he rfl (by decide)
  have w2 : cal (d + 1) m_Te_isWord [(105, 18), (3, 2)] (tS h le cl (b : Int) (e : Int)) = some (bI (isW L b e [114, 105, 99, 104]), tS h le cl (b : Int) (e : Int)) := c_isWord (w := 2) H hb he rfl (by decide)
  have w3 : cal (d + 1) m_Te_isWord [(105, 18), (3, 3)] (tS h le cl (b : Int) (e : Int)) = some (bI (isW L b e [98, 97, 114, 114, 101, 100]), tS h le cl (b : Int) (e : Int)) := c_isWord (w := 3) H hb he rfl (by decide)
  have w4 : cal (d + 1) m_Te_isWord [(105, 18), (3, 4)] (tS h le cl (b : Int) (e : Int)) = some (bI (isW L b e [109, 101, 97, 110]), tS h le cl (b : Int) (e : Int)) := c_isWord (w := 4) H hb he rfl (by decide)
  have w5 : cal (d + 1) m_Te_isWord [(105, 18), (3, 5)] (tS h le cl (b : Int) (e : Int)) = some (bI (isW L b e [98, 111, 97, 114, 100]), tS h le cl (b : Int) (e : Int)) := c_isWord (w := 5) H hb he rfl (by decide)
  have w6 : cal (d + 1) m_Te_isWord [(105, 18), (3, 6)] (tS h le cl (b : Int) (e : Int)) = some (bI (isW L b e [115, 101, 101, 100, 115]), tS h le cl (b : Int) (e : Int)) := c_isWord (w := 6) H hb he rfl (by decide)
  have w7 : cal (d + 1) m_Te_isWord [(105, 18), (3, 7)] (tS h le cl (b : Int) (e : Int)) = some (bI (isW L b e [98, 97, 114, 110]), tS h le cl (b : Int) (e : Int)) := c_isWord (w := 7) H hb he rfl (by decide)
  have w8 : cal (d + 1) m_Te_isWord [(105, 18), (3, 8)] (tS h le cl (b : Int) (e : Int)) = some (bI (isW L b e [116, 117, 114, 110]), tS h le cl (b : Int) (e : Int)) := c_isWord (w := 8) H hb he rfl (by decide)
  rw [k_Te_word]
  simp only [w0, w1, w2, w3, w4, w5, w6, w7, w8, Option.bind_some]
  unfold cwd
  cases isW L b e [112, 108, 97, 105, 110] with
  | true => rfl
  | false =>
  show (if (0 : Int) = 0 then _ else _) = _
  rw [if_pos rfl, if_neg Bool.false_ne_true]
  cases isW L b e [100, 101, 101, 112] with
  | true => rfl
  | false =>
  show (if (0 : Int) = 0 then _ else _) = _
  rw [if_pos rfl, if_neg Bool.false_ne_true]
  cases isW L b e [114, 105, 99, 104] with
  | true => rfl
  | false =>
  show (if (0 : Int) = 0 then _ else _) = _
  rw [if_pos rfl, if_neg Bool.false_ne_true]
  cases isW L b e [98, 97, 114, 114, 101, 100] with
  | true => rfl
  | false =>
  show (if (0 : Int) = 0 then _ else _) = _
  rw [if_pos rfl, if_neg Bool.false_ne_true]
  cases isW L b e [109, 101, 97, 110] with
  | true => rfl
  | false =>
  show (if (0 : Int) = 0 then _ else _) = _
  rw [if_pos rfl, if_neg Bool.false_ne_true]
  cases isW L b e [98, 111, 97, 114, 100] with
  | true => rfl
  | false =>
  show (if (0 : Int) = 0 then _ else _) = _
  rw [if_pos rfl, if_neg Bool.false_ne_true]
  cases isW L b e [115, 101, 101, 100, 115] with
  | true => rfl
  | false =>
  show (if (0 : Int) = 0 then _ else _) = _
  rw [if_pos rfl, if_neg Bool.false_ne_true]
  cases isW L b e [98, 97, 114, 110] with
  | true => rfl
  | false =>
  show (if (0 : Int) = 0 then _ else _) = _
  rw [if_pos rfl, if_neg Bool.false_ne_true]
  cases isW L b e [116, 117, 114, 110] with
  | true => rfl
  | false =>
  show (if (0 : Int) = 0 then _ else _) = _
  rw [if_pos rfl, if_neg Bool.false_ne_true]
theorem numV_b (H : TH h L le) {b : Nat} : ∀ (n : Nat), n ≤ 2 → (∀ i, i < n → 48 ≤ L.getD (b + i) 0 ∧ L.getD (b + i) 0 ≤ 57) → 0 ≤ numV L b n ∧ numV L b n ≤ 99 := by
  intro n hn q
  have : n = 0 ∨ n = 1 ∨ n = 2 := by omega
  rcases this with rfl | rfl | rfl
  · show (0 : Int) ≤ 0 ∧ (0 : Int) ≤ 99; omega
  · have := q 0 (by omega)
    show 0 ≤ 10 * 0 + L.getD (b + 0) 0 - 48 ∧ 10 * 0 + L.getD (b + 0) 0 - 48 ≤ 99
    omega
  · have a := q 0 (by omega)
    have c := q 1 (by omega)
    show 0 ≤ 10 * (10 * 0 + L.getD (b + 0) 0 - 48) + L.getD (b + 1) 0 - 48 ∧ 10 * (10 * 0 + L.getD (b + 0) 0 - 48) + L.getD (b + 1) 0 - 48 ≤ 99
    omega
theorem c_rn42 (H : TH h L le) {b e : Nat} {lo hi : Int} (he : (e : Int) ≤ le) (e2 : e ≤ b + 2) (dg : ∀ i, b + i < e → 48 ≤ L.getD (b + i) 0 ∧ L.getD (b + i) 0 ≤ 57) : ∀ (k n : Nat), b + n + k = e → run (d + 2) m_Te_readNumber 42 [(105, 18), (0, lo), (0, hi), (0, numV L b n), (0, ((b + n : Nat) : Int))] [] (tS h le cl (b : Int) (e : Int)) = some (if lo ≤ numV L b (n + k) ∧ numV L b (n + k) ≤ hi then numV L b (n + k) else -1, tS h le cl (b : Int) (e : Int)) := by
  have l2 := H.2.2.2.2.1
  intro k
  induction k with
  | zero =>
    intro n nk
    have w : cal (d + 1) m_Ss_isWithin [(0, numV L b n), (0, lo), (0, hi)] (tS h le cl (b : Int) (e : Int)) = some (bI (decide (lo ≤ numV L b n ∧ numV L b n ≤ hi)), tS h le cl (b : Int) (e : Int)) := c_within _ lo hi
    rw [k_Te_readNumber_42, H.r4, Option.bind_some, if_neg (by omega), w, Option.bind_some]
    show _ = some (if lo ≤ numV L b n ∧ numV L b n ≤ hi then numV L b n else -1, _)
    by_cases z : lo ≤ numV L b n ∧ numV L b n ≤ hi
    · rw [bI_t z, if_pos z]; rfl
    · rw [bI_f z, if_neg z]; rfl
  | succ k ih =>
    intro n nk
    have v := numV_b H (b := b) n (by omega) (fun i hi => dg i (by omega))
    have c := dg n (by omega)
    rw [k_Te_readNumber_42, H.r4, Option.bind_some, if_pos (by omega), H.r0, Option.bind_some, H.rl (by omega), Option.bind_some, mul_id (by omega) (by omega), add_id (x := 10 * numV L b n) (by omega) (by omega), sub_id (by omega) (by omega), add_id (by omega) (by omega), show ((b + n : Nat) : Int) + 1 = ((b + (n + 1) : Nat) : Int) by omega]
    have := ih (n + 1) (by omega)
    rw [show n + 1 + k = n + (k + 1) by omega] at this
    exact this
/-- a number read -/
def rdN (L : List Int) (le : Int) (b e : Nat) (lo hi : Int) : Int := if 48 ≤ ch L le b ∧ ch L le b ≤ 57 then (if e ≤ b + 2 then (if lo ≤ numV L b (e - b) ∧ numV L b (e - b) ≤ hi then numV L b (e - b) else -1) else -1) else -1
theorem te_dg {b : Nat} (l0 : 0 ≤ le) (hb : (b : Int) ≤ le) (z : 48 ≤ ch L le b ∧ ch L le b ≤ 57) : (b : Int) < le ∧ te L le b = rn L le 48 57 (b + 1) ∧ b < te L le b ∧ (te L le b : Int) ≤ le ∧ ∀ i, b + i < te L le b → 48 ≤ L.getD (b + i) 0 ∧ L.getD (b + i) 0 ≤ 57 := by
  have bl : (b : Int) < le := by
    by_cases y : (b : Int) < le
    · exact y
    · rw [ch_out (by omega)] at z; omega
  have e : te L le b = rn L le 48 57 (b + 1) := by unfold te; rw [if_neg (by omega), if_pos z]
  have r := rn_r (L := L) (le := le) (lo := 48) (hi := 57) (by omega) (le.toNat - (b + 1)) (b + 1) (by omega)
  refine ⟨bl, e, by omega, by omega, fun i hi => ?_⟩
  rw [← ch_in (L := L) (le := le) (by omega)]
  by_cases i0 : i = 0
  · rw [i0]; exact z
  · exact r.2.2.2 (b + i) (by omega) (by omega)
theorem c_readNumber (H : TH h L le) {st : Int} {p : Nat} (hp : (p : Int) ≤ le) (lo hi : Int) : cal (d + 3) m_Te_readNumber [(105, 18), (0, lo), (0, hi)] (tS h le cl st (p : Int)) = some (rdN L le (sk L le p) (te L le (sk L le p)) lo hi, tS h le cl ((sk L le p : Nat) : Int) ((te L le (sk L le p) : Nat) : Int)) := by
  have l0 := H.2.2.2.1
  have l2 := H.2.2.2.2.1
  have sr := sk_r (L := L) (le := le) (le.toNat - p) p (by omega)
  rw [k_Te_readNumber, c_advance H hp, Option.bind_some]
  generalize sk L le p = b at sr
  have t := c_isAt (d := d + 1) (cl := cl) (st := (b : Int)) (en := ((te L le b : Nat) : Int)) H b (lo := 48) (hi := 57) (by omega)
  simp only [H.r3, H.r4, t, Option.bind_some]
  unfold rdN
  by_cases z : 48 ≤ ch L le b ∧ ch L le b ≤ 57
  · obtain ⟨d1, d2, d3, d4, d5⟩ := te_dg l0 sr.2.1 z
    rw [if_pos z, if_pos z, if_neg (by decide), sub_id (by omega) (by omega)]
    generalize te L le b = e at d2 d3 d4 d5
    by_cases y : e ≤ b + 2
    · rw [if_neg (by omega), if_pos y]
      have := c_rn42 (d := d + 1) (cl := cl) (lo := lo) (hi := hi) H d4 y d5 (e - b) 0 (by omega)
      rw [Nat.zero_add] at this
      exact this
    · rw [if_pos (by omega), if_neg y]
  · rw [if_neg z, if_neg z, if_pos rfl]
end CW
