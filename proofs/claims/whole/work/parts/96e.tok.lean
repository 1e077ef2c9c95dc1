/-! Tokens, on the class's side. -/
def ch (L : List Int) (le : Int) (i : Nat) : Int := if (i : Int) < le then L.getD i 0 else -1
def skT (L : List Int) (le : Int) : Nat → Nat → Nat
  | 0, p => p
  | f + 1, p => if ch L le p = 32 then skT L le f (p + 1) else p
def rnT (L : List Int) (le lo hi : Int) : Nat → Nat → Nat
  | 0, p => p
  | f + 1, p => if lo ≤ ch L le p ∧ ch L le p ≤ hi then rnT L le lo hi f (p + 1) else p
def sk (L : List Int) (le : Int) (p : Nat) : Nat := skT L le (le.toNat - p) p
def rn (L : List Int) (le lo hi : Int) (p : Nat) : Nat := rnT L le lo hi (le.toNat - p) p
def te (L : List Int) (le : Int) (b : Nat) : Nat := if 97 ≤ ch L le b ∧ ch L le b ≤ 122 then rn L le 97 122 (b + 1) else if 48 ≤ ch L le b ∧ ch L le b ≤ 57 then rn L le 48 57 (b + 1) else if (b : Int) < le then b + 1 else b
section TOK
variable {L : List Int} {le : Int}
theorem ch_out {i : Nat} (h : le ≤ (i : Int)) : ch L le i = -1 := if_neg (by omega)
theorem ch_in {i : Nat} (h : (i : Int) < le) : ch L le i = L.getD i 0 := if_pos h
theorem sk_eq (p : Nat) : sk L le p = if ch L le p = 32 then sk L le (p + 1) else p := by
  unfold sk
  by_cases z : (p : Int) < le
  · rw [show le.toNat - p = (le.toNat - (p + 1)) + 1 by omega]; rfl
  · rw [ch_out (by omega), if_neg (by decide), show le.toNat - p = 0 by omega]; rfl
theorem rn_eq {lo hi : Int} (l0 : 0 ≤ lo) (p : Nat) : rn L le lo hi p = if lo ≤ ch L le p ∧ ch L le p ≤ hi then rn L le lo hi (p + 1) else p := by
  unfold rn
  by_cases z : (p : Int) < le
  · rw [show le.toNat - p = (le.toNat - (p + 1)) + 1 by omega]; rfl
  · rw [ch_out (by omega), if_neg (by omega), show le.toNat - p = 0 by omega]; rfl
theorem sk_r : ∀ (k p : Nat), (p : Int) + (k : Int) = le → p ≤ sk L le p ∧ (sk L le p : Int) ≤ le ∧ ch L le (sk L le p) ≠ 32 := by
  intro k
  induction k with
  | zero =>
    intro p e
    rw [sk_eq, if_neg (by rw [ch_out (by omega)]; decide)]
    exact ⟨by omega, by omega, by rw [ch_out (by omega)]; decide⟩
  | succ k ih =>
    intro p e
    rw [sk_eq]
    by_cases z : ch L le p = 32
    · have i := ih (p + 1) (by omega)
      rw [if_pos z]; exact ⟨by omega, i.2⟩
    · rw [if_neg z]; exact ⟨by omega, by omega, z⟩
theorem rn_r {lo hi : Int} (l0 : 0 ≤ lo) : ∀ (k p : Nat), (p : Int) + (k : Int) = le → p ≤ rn L le lo hi p ∧ (rn L le lo hi p : Int) ≤ le ∧ ¬ (lo ≤ ch L le (rn L le lo hi p) ∧ ch L le (rn L le lo hi p) ≤ hi) ∧ ∀ i, p ≤ i → i < rn L le lo hi p → lo ≤ ch L le i ∧ ch L le i ≤ hi := by
  intro k
  induction k with
  | zero =>
    intro p e
    have q : rn L le lo hi p = p := by rw [rn_eq l0, if_neg (by rw [ch_out (by omega)]; omega)]
    rw [q]
    exact ⟨by omega, by omega, by rw [ch_out (by omega)]; omega, fun i a b => by omega⟩
  | succ k ih =>
    intro p e
    by_cases z : lo ≤ ch L le p ∧ ch L le p ≤ hi
    · have q : rn L le lo hi p = rn L le lo hi (p + 1) := by rw [rn_eq l0, if_pos z]
      have i := ih (p + 1) (by omega)
      rw [q]
      refine ⟨by omega, i.2.1, i.2.2.1, fun j a b => ?_⟩
      by_cases y : j = p
      · rw [y]; exact z
      · exact i.2.2.2 j (by omega) b
    · have q : rn L le lo hi p = p := by rw [rn_eq l0, if_neg z]
      rw [q]
      exact ⟨by omega, by omega, z, fun i a b => by omega⟩
end TOK
def tS (h : AH) (le cl st en : Int) : AH := h.set 18 (5, [19, le, cl, st, en])
def TH (h : AH) (L : List Int) (le : Int) : Prop := 18 < h.length ∧ h[19]? = some (22, L) ∧ L.length = 200 ∧ 0 ≤ le ∧ le ≤ 200 ∧ ∀ j : Nat, j < 200 → 0 ≤ L.getD j 0 ∧ L.getD j 0 ≤ 255
section CT
variable {h : AH} {L : List Int} {le cl st en : Int} {d : Nat}
theorem TH.c (H : TH h L le) : (tS h le cl st en)[18]? = some (5, [19, le, cl, st, en]) := getS H.1
theorem TH.r1 (H : TH h L le) : rdf 5 (tS h le cl st en) 18 1 = some le := rdf_n (n := 18) H.c 1
theorem TH.r2 (H : TH h L le) : rdf 5 (tS h le cl st en) 18 2 = some cl := rdf_n (n := 18) H.c 2
theorem TH.r3 (H : TH h L le) : rdf 5 (tS h le cl st en) 18 3 = some st := rdf_n (n := 18) H.c 3
theorem TH.r4 (H : TH h L le) : rdf 5 (tS h le cl st en) 18 4 = some en := rdf_n (n := 18) H.c 4
theorem TH.r0 (H : TH h L le) : rdr 5 (tS h le cl st en) 18 0 = some 19 := rdr_n (n := 18) H.c rfl (by omega)
theorem TH.w2 (H : TH h L le) (v : Int) : wrf 5 (tS h le cl st en) 18 2 v = some (tS h le v st en) := (wrf_n (n := 18) H.c (by simp) v).trans (by unfold tS; rw [List.set_set]; rfl)
theorem TH.w3 (H : TH h L le) (v : Int) : wrf 5 (tS h le cl st en) 18 3 v = some (tS h le cl v en) := (wrf_n (n := 18) H.c (by simp) v).trans (by unfold tS; rw [List.set_set]; rfl)
theorem TH.w4 (H : TH h L le) (v : Int) : wrf 5 (tS h le cl st en) 18 4 v = some (tS h le cl st v) := (wrf_n (n := 18) H.c (by simp) v).trans (by unfold tS; rw [List.set_set]; rfl)
theorem TH.rl (H : TH h L le) {i : Nat} (hi : i < 200) : rda 22 (tS h le cl st en) 19 (i : Int) = some (L.getD i 0) := by
  have e : (tS h le cl st en)[19]? = some (22, L) := by unfold tS; rw [getN (by omega)]; exact H.2.1
  have := rda_i (n := 19) e (i := (i : Int)) (by omega)
  rw [Int.toNat_natCast] at this
  exact this.trans (getD_some (by rw [H.2.2.1]; exact hi))
theorem c_isAt (H : TH h L le) (i : Nat) {lo hi : Int} (l0 : 0 ≤ lo) : cal (d + 1) m_Te_isAt [(105, 18), (0, (i : Int)), (0, lo), (0, hi)] (tS h le cl st en) = some (if lo ≤ ch L le i ∧ ch L le i ≤ hi then 1 else 0, tS h le cl st en) := by
  rw [k_Te_isAt, H.r1, Option.bind_some]
  have l2 := H.2.2.2.2.1
  by_cases z : (i : Int) < le
  · rw [if_pos z, H.r0, Option.bind_some, H.rl (by omega), Option.bind_some, Option.bind_some, H.rl (by omega), Option.bind_some, ch_in z]
    by_cases a : L.getD i 0 < lo
    · rw [if_pos a, if_neg (by omega)]
    · rw [if_neg a]
      by_cases b : hi < L.getD i 0
      · rw [if_pos b, if_neg (by omega)]
      · rw [if_neg b, if_pos (by omega)]
  · rw [if_neg z, ch_out (by omega), if_neg (by omega)]
theorem c_adv89 (H : TH h L le) : ∀ (k e : Nat), (e : Int) + (k : Int) = le → run (d + 2) m_Te_advance 89 [(105, 18)] [] (tS h le cl st (e : Int)) = some (0, tS h le cl st ((rn L le 97 122 e : Nat) : Int)) := by
  intro k
  induction k with
  | zero =>
    intro e ek
    rw [rn_eq (by omega), ch_out (by omega), if_neg (by omega), k_Te_advance_89, H.r4, Option.bind_some, H.r1, Option.bind_some, if_neg (by omega)]
  | succ k ih =>
    intro e ek
    have l2 := H.2.2.2.2.1
    have t := c_isAt (d := d) (cl := cl) (st := st) (en := (e : Int)) H e (lo := 97) (hi := 122) (by omega)
    rw [k_Te_advance_89, H.r4, Option.bind_some, H.r1, Option.bind_some, if_pos (by omega), Option.bind_some, t, Option.bind_some, rn_eq (by omega)]
    by_cases z : 97 ≤ ch L le e ∧ ch L le e ≤ 122
    · rw [if_pos z, if_pos z]
      show (if (1 : Int) = 0 then _ else _) = _
      rw [if_neg (by decide)]
      show (rdf 5 (tS h le cl st (e : Int)) 18 4).bind _ = _
      rw [H.r4, Option.bind_some, add_id (by omega) (by omega), H.w4, Option.bind_some, show (e : Int) + 1 = ((e + 1 : Nat) : Int) by omega]
      exact ih (e + 1) (by omega)
    · rw [if_neg z, if_neg z]; rfl
theorem c_adv143 (H : TH h L le) : ∀ (k e : Nat), (e : Int) + (k : Int) = le → run (d + 2) m_Te_advance 143 [(105, 18)] [] (tS h le cl st (e : Int)) = some (0, tS h le cl st ((rn L le 48 57 e : Nat) : Int)) := by
  intro k
  induction k with
  | zero =>
    intro e ek
    rw [rn_eq (by omega), ch_out (by omega), if_neg (by omega), k_Te_advance_143, H.r4, Option.bind_some, H.r1, Option.bind_some, if_neg (by omega)]
  | succ k ih =>
    intro e ek
    have l2 := H.2.2.2.2.1
    have t := c_isAt (d := d) (cl := cl) (st := st) (en := (e : Int)) H e (lo := 48) (hi := 57) (by omega)
    rw [k_Te_advance_143, H.r4, Option.bind_some, H.r1, Option.bind_some, if_pos (by omega), Option.bind_some, t, Option.bind_some, rn_eq (by omega)]
    by_cases z : 48 ≤ ch L le e ∧ ch L le e ≤ 57
    · rw [if_pos z, if_pos z]
      show (if (1 : Int) = 0 then _ else _) = _
      rw [if_neg (by decide)]
      show (rdf 5 (tS h le cl st (e : Int)) 18 4).bind _ = _
      rw [H.r4, Option.bind_some, add_id (by omega) (by omega), H.w4, Option.bind_some, show (e : Int) + 1 = ((e + 1 : Nat) : Int) by omega]
      exact ih (e + 1) (by omega)
    · rw [if_neg z, if_neg z]; rfl
theorem c_adv8 (H : TH h L le) : ∀ (k p : Nat), (p : Int) + (k : Int) = le → run (d + 2) m_Te_advance 8 [(105, 18)] [] (tS h le cl (p : Int) en) = some (0, tS h le cl ((sk L le p : Nat) : Int) ((te L le (sk L le p) : Nat) : Int)) := by
  intro k
  induction k with
  | zero =>
    intro p pk
    have t1 := c_isAt (d := d) (cl := cl) (st := (p : Int)) (en := le) H p (lo := 97) (hi := 122) (by omega)
    have t2 := c_isAt (d := d) (cl := cl) (st := (p : Int)) (en := le) H p (lo := 48) (hi := 57) (by omega)
    have c0 : ch L le p = -1 := ch_out (by omega)
    rw [c0, if_neg (by omega)] at t1 t2
    rw [sk_eq, c0, if_neg (by decide)]
    unfold te
    rw [c0, if_neg (by omega), if_neg (by omega), if_neg (by omega), k_Te_advance_8]
    simp only [H.r3, H.r1, Option.bind_some]
    rw [if_neg (by omega), if_neg (by omega)]
    simp only [H.w4, H.r3, t1, t2, Option.bind_some]
    rw [if_true, if_true, show (p : Int) = le by omega]
  | succ k ih =>
    intro p pk
    have l2 := H.2.2.2.2.1
    have c0 : ch L le p = L.getD p 0 := ch_in (by omega)
    rw [sk_eq, k_Te_advance_8]
    simp only [H.r3, H.r1, H.r0, H.rl (show p < 200 by omega), Option.bind_some]
    rw [if_pos (show (p : Int) < le by omega), if_pos (show (p : Int) < le by omega), add_id (by omega) (by omega), show (p : Int) + 1 = ((p + 1 : Nat) : Int) by omega, H.w3, H.w4, Option.bind_some, Option.bind_some, c0]
    by_cases z : L.getD p 0 = 32
    · rw [if_pos z, if_pos z]
      exact ih (p + 1) (by omega)
    · rw [if_neg z, if_neg z]
      have t1 := c_isAt (d := d) (cl := cl) (st := (p : Int)) (en := ((p + 1 : Nat) : Int)) H p (lo := 97) (hi := 122) (by omega)
      have t2 := c_isAt (d := d) (cl := cl) (st := (p : Int)) (en := ((p + 1 : Nat) : Int)) H p (lo := 48) (hi := 57) (by omega)
      unfold te
      by_cases a : 97 ≤ ch L le p ∧ ch L le p ≤ 122
      · rw [if_pos a] at t1 ⊢
        simp only [H.r3, t1, Option.bind_some]
        rw [if_neg (by decide)]
        exact c_adv89 H k (p + 1) (by omega)
      · rw [if_neg a] at t1 ⊢
        simp only [H.r3, t1, t2, Option.bind_some]
        rw [if_true]
        by_cases b : 48 ≤ ch L le p ∧ ch L le p ≤ 57
        · rw [if_pos b, if_pos b, if_neg (by decide)]
          exact c_adv143 H k (p + 1) (by omega)
        · rw [if_neg b, if_neg b, if_pos rfl, if_pos (by omega)]
theorem c_advance (H : TH h L le) {p : Nat} (hp : (p : Int) ≤ le) : cal (d + 2) m_Te_advance [(105, 18)] (tS h le cl st (p : Int)) = some (0, tS h le cl ((sk L le p : Nat) : Int) ((te L le (sk L le p) : Nat) : Int)) := by
  rw [k_Te_advance, H.r4, Option.bind_some, H.w3, Option.bind_some]
  exact c_adv8 H (le.toNat - p) p (by omega)
end CT
