/-! The model's look at the next token. -/
def hS (h : AH) (le pl be to va br un ke la ma : Int) : AH := h.set 108 (7, hM le pl be to va br un ke la ma)
def LH (h : AH) (L : List Int) (le : Int) : Prop := 108 < h.length ∧ h[111]? = some (20, L) ∧ L.length = 200 ∧ 0 ≤ le ∧ le ≤ 200 ∧ ∀ j : Nat, j < 200 → 0 ≤ L.getD j 0 ∧ L.getD j 0 ≤ 255
def tkT (L : List Int) (le : Int) (b : Nat) : Int := if 97 ≤ ch L le b ∧ ch L le b ≤ 122 then 1 else if 48 ≤ ch L le b ∧ ch L le b ≤ 57 then (if te L le b ≤ b + 2 then 2 else 5) else if ch L le b = 59 then 3 else if ch L le b < 0 then 4 else 5
def n2 (n : Nat) : Nat := if n ≤ 2 then n else 2
def tkV (L : List Int) (le : Int) (b : Nat) (va : Int) : Int := if 97 ≤ ch L le b ∧ ch L le b ≤ 122 then mwV (vV L b (te L le b)) else if 48 ≤ ch L le b ∧ ch L le b ≤ 57 then numV L b (n2 (te L le b - b)) else va
theorem k_Mo_looksOn (d : Nat) (x0 : Int) (h : AH) : cal (d + 1) m_Mo_looksOn [(107, x0)] h = run (d + 1) m_Mo_looksOn 0 [(107, x0), (9, 0)] [] h := (cal_blk [0, 57, 134] 1 d m_Mo_looksOn _ h rfl).trans (run_blk [0, 57, 134] 1 d m_Mo_looksOn 0 _ _ h).symm
section LK
variable {h : AH} {L : List Int} {d : Nat} {le pl be to va br un ke la ma : Int}
theorem LH.c (H : LH h L le) : (hS h le pl be to va br un ke la ma)[108]? = some (7, hM le pl be to va br un ke la ma) := getS H.1
theorem LH.l (H : LH h L le) : (hS h le pl be to va br un ke la ma)[111]? = some (20, L) := by unfold hS; rw [getN (by omega)]; exact H.2.1
theorem LH.r3 (H : LH h L le) : rdf 7 (hS h le pl be to va br un ke la ma) 108 3 = some le := hmf H.c rfl
theorem LH.r4 (H : LH h L le) : rdf 7 (hS h le pl be to va br un ke la ma) 108 4 = some pl := hmf H.c rfl
theorem LH.r5 (H : LH h L le) : rdf 7 (hS h le pl be to va br un ke la ma) 108 5 = some be := hmf H.c rfl
theorem LH.r6 (H : LH h L le) : rdf 7 (hS h le pl be to va br un ke la ma) 108 6 = some to := hmf H.c rfl
theorem LH.r7 (H : LH h L le) : rdf 7 (hS h le pl be to va br un ke la ma) 108 7 = some va := hmf H.c rfl
theorem LH.r8 (H : LH h L le) : rdf 7 (hS h le pl be to va br un ke la ma) 108 8 = some br := hmf H.c rfl
theorem LH.r2 (H : LH h L le) : rdr 7 (hS h le pl be to va br un ke la ma) 108 2 = some 111 := hmr H.c rfl (by omega)
theorem LH.r9 (H : LH h L le) : rdr 7 (hS h le pl be to va br un ke la ma) 108 9 = some 112 := hmr H.c rfl (by omega)
theorem LH.w4 (H : LH h L le) (v : Int) : wrf 7 (hS h le pl be to va br un ke la ma) 108 4 v = some (hS h le v be to va br un ke la ma) := (hmw H.c (by simp [hM]) v).trans (by unfold hS; rw [List.set_set]; rfl)
theorem LH.w5 (H : LH h L le) (v : Int) : wrf 7 (hS h le pl be to va br un ke la ma) 108 5 v = some (hS h le pl v to va br un ke la ma) := (hmw H.c (by simp [hM]) v).trans (by unfold hS; rw [List.set_set]; rfl)
theorem LH.w6 (H : LH h L le) (v : Int) : wrf 7 (hS h le pl be to va br un ke la ma) 108 6 v = some (hS h le pl be v va br un ke la ma) := (hmw H.c (by simp [hM]) v).trans (by unfold hS; rw [List.set_set]; rfl)
theorem LH.w7 (H : LH h L le) (v : Int) : wrf 7 (hS h le pl be to va br un ke la ma) 108 7 v = some (hS h le pl be to v br un ke la ma) := (hmw H.c (by simp [hM]) v).trans (by unfold hS; rw [List.set_set]; rfl)
theorem LH.w8 (H : LH h L le) (v : Int) : wrf 7 (hS h le pl be to va br un ke la ma) 108 8 v = some (hS h le pl be to va v un ke la ma) := (hmw H.c (by simp [hM]) v).trans (by unfold hS; rw [List.set_set]; rfl)
theorem LH.rl (H : LH h L le) {i : Nat} (hi : i < 200) : rda 20 (hS h le pl be to va br un ke la ma) 111 (i : Int) = some (L.getD i 0) := by
  have := rdA (n := 111) (i := (i : Int)) (H.l (pl := pl) (be := be) (to := to) (va := va) (br := br) (un := un) (ke := ke) (la := la) (ma := ma)) (by omega) (by have := H.2.2.1; omega)
  rw [Int.toNat_natCast] at this
  exact this
theorem m_letterAt (H : LH h L le) (i : Nat) : cal (d + 1) m_Mo_letterAt [(107, 108), (0, (i : Int))] (hS h le pl be to va br un ke la ma) = some (ch L le i, hS h le pl be to va br un ke la ma) := by
  have l2 := H.2.2.2.2.1
  rw [k_Mo_letterAt, H.r3, Option.bind_some]
  by_cases z : (i : Int) < le
  · rw [if_pos z, H.r2, Option.bind_some, H.rl (by omega), Option.bind_some, ch_in z]
  · rw [if_neg z, ch_out (by omega)]
theorem m_lo57 (H : LH h L le) {x1 : Int} {b : Nat} : ∀ (k q : Nat), (q : Int) + (k : Int) = le → b ≤ q → run (d + 3) m_Mo_looksOn 57 [(107, 108), (0, x1)] [] (hS h le (q : Int) (b : Int) to va br un ke la ma) = some (0, hS h le ((rn L le 97 122 q : Nat) : Int) (b : Int) 1 (mwV (vV L b (rn L le 97 122 q))) br un ke la ma) := by
  intro k
  induction k with
  | zero =>
    intro q qk bq
    have l2 := H.2.2.2.2.1
    have a := m_letterAt (d := d + 1) (pl := (q : Int)) (be := (b : Int)) (to := to) (va := va) (br := br) (un := un) (ke := ke) (la := la) (ma := ma) H q
    have i := m_in (d := d + 1) (h := hS h le (q : Int) (b : Int) to va br un ke la ma) (ch L le q) 97 122
    have c0 : ch L le q = -1 := ch_out (by omega)
    rw [c0, bI_f (by omega)] at i
    rw [c0] at a
    have s := m_said (d := d) (b := b) (e := q) (H.c (pl := (q : Int)) (be := (b : Int)) (to := 1) (va := va) (br := br) (un := un) (ke := ke) (la := la) (ma := ma)) H.l H.2.2.1 H.2.2.2.2.2 bq (by omega)
    rw [rn_eq (by omega), c0, if_neg (by omega), k_Mo_looksOn_57]
    simp only [H.r4, a, i, Option.bind_some]
    rw [if_true]
    simp only [H.w6, H.r4, H.r5, s, H.w7, Option.bind_some]
  | succ k ih =>
    intro q qk bq
    have l2 := H.2.2.2.2.1
    have a := m_letterAt (d := d + 1) (pl := (q : Int)) (be := (b : Int)) (to := to) (va := va) (br := br) (un := un) (ke := ke) (la := la) (ma := ma) H q
    have i := m_in (d := d + 1) (h := hS h le (q : Int) (b : Int) to va br un ke la ma) (ch L le q) 97 122
    rw [rn_eq (by omega), k_Mo_looksOn_57]
    simp only [H.r4, a, i, Option.bind_some]
    by_cases z : 97 ≤ ch L le q ∧ ch L le q ≤ 122
    · rw [bI_t z, if_neg (by decide), if_pos z, add_id (by omega) (by omega), H.w4, Option.bind_some, show (q : Int) + 1 = ((q + 1 : Nat) : Int) by omega]
      exact ih (q + 1) (by omega) (by omega)
    · have s := m_said (d := d) (b := b) (e := q) (H.c (pl := (q : Int)) (be := (b : Int)) (to := 1) (va := va) (br := br) (un := un) (ke := ke) (la := la) (ma := ma)) H.l H.2.2.1 H.2.2.2.2.2 bq (by omega)
      rw [bI_f z, if_pos rfl, if_neg z]
      simp only [H.w6, H.r4, H.r5, s, H.w7, Option.bind_some]
theorem m_lo134e (H : LH h L le) {x1 : Int} {b n : Nat} (n2' : b + n ≤ 200) (z : ¬ (48 ≤ ch L le (b + n) ∧ ch L le (b + n) ≤ 57)) : run (d + 3) m_Mo_looksOn 134 [(107, 108), (0, x1)] [] (hS h le ((b + n : Nat) : Int) (b : Int) to va br un ke la ma) = some (0, hS h le ((b + n : Nat) : Int) (b : Int) (if b + n ≤ b + 2 then 2 else 5) va br un ke la ma) := by
  have a := m_letterAt (d := d + 1) (pl := ((b + n : Nat) : Int)) (be := (b : Int)) (to := to) (va := va) (br := br) (un := un) (ke := ke) (la := la) (ma := ma) H (b + n)
  have i := m_in (d := d + 1) (h := hS h le ((b + n : Nat) : Int) (b : Int) to va br un ke la ma) (ch L le (b + n)) 48 57
  rw [bI_f z] at i
  rw [k_Mo_looksOn_134]
  simp only [H.r4, H.r5, a, i, Option.bind_some]
  rw [if_true, sub_id (by omega) (by omega)]
  by_cases y : b + n ≤ b + 2
  · rw [if_neg (by omega), if_pos y, H.w6]; rfl
  · rw [if_pos (by omega), if_neg y, H.w6]; rfl
theorem m_lo134 (H : LH h L le) {x1 : Int} {b : Nat} : ∀ (k n : Nat), ((b + n : Nat) : Int) + (k : Int) = le → (∀ i, i < n → 48 ≤ L.getD (b + i) 0 ∧ L.getD (b + i) 0 ≤ 57) → run (d + 3) m_Mo_looksOn 134 [(107, 108), (0, x1)] [] (hS h le ((b + n : Nat) : Int) (b : Int) to (numV L b (n2 n)) br un ke la ma) = some (0, hS h le ((rn L le 48 57 (b + n) : Nat) : Int) (b : Int) (if rn L le 48 57 (b + n) ≤ b + 2 then 2 else 5) (numV L b (n2 (rn L le 48 57 (b + n) - b))) br un ke la ma) := by
  intro k
  induction k with
  | zero =>
    intro n nk dg
    have l2 := H.2.2.2.2.1
    have z : ¬ (48 ≤ ch L le (b + n) ∧ ch L le (b + n) ≤ 57) := by rw [ch_out (by omega)]; omega
    have e : rn L le 48 57 (b + n) = b + n := by rw [rn_eq (by omega), if_neg z]
    rw [e, show b + n - b = n by omega]
    exact m_lo134e H (by omega) z
  | succ k ih =>
    intro n nk dg
    have l0 := H.2.2.2.1
    have l2 := H.2.2.2.2.1
    by_cases z : 48 ≤ ch L le (b + n) ∧ ch L le (b + n) ≤ 57
    · have e : rn L le 48 57 (b + n) = rn L le 48 57 (b + (n + 1)) := by rw [rn_eq (by omega), if_pos z]; rfl
      have cn := z
      rw [ch_in (by omega)] at cn
      have nxt := ih (n + 1) (by omega) (fun i hi => by
        by_cases y : i = n
        · rw [y]; exact cn
        · exact dg i (by omega))
      have a := m_letterAt (d := d + 1) (pl := ((b + n : Nat) : Int)) (be := (b : Int)) (to := to) (va := numV L b (n2 n)) (br := br) (un := un) (ke := ke) (la := la) (ma := ma) H (b + n)
      have i := m_in (d := d + 1) (h := hS h le ((b + n : Nat) : Int) (b : Int) to (numV L b (n2 n)) br un ke la ma) (ch L le (b + n)) 48 57
      rw [bI_t z] at i
      rw [e, k_Mo_looksOn_134]
      simp only [H.r4, H.r5, H.r7, a, i, Option.bind_some]
      rw [if_neg (by decide), sub_id (by omega) (by omega)]
      by_cases y : n < 2
      · have en : n2 n = n := if_pos (by omega)
        have em : n2 (n + 1) = n + 1 := if_pos (by omega)
        have e0 : n = 0 ∨ n = 1 := by omega
        have bd : 0 ≤ numV L b n ∧ numV L b n ≤ 9 := by
          rcases e0 with rfl | rfl
          · show (0 : Int) ≤ 0 ∧ (0 : Int) ≤ 9; omega
          · have := dg 0 (by omega)
            show 0 ≤ 10 * 0 + L.getD (b + 0) 0 - 48 ∧ 10 * 0 + L.getD (b + 0) 0 - 48 ≤ 9
            omega
        rw [if_pos (by omega), en] 
        rw [em] at nxt
        simp only [H.r2, H.rl (show b + n < 200 by omega), Option.bind_some]
        rw [mul_id (by omega) (by omega), add_id (x := 10 * numV L b n) (by omega) (by omega), sub_id (by omega) (by omega), H.w7, Option.bind_some, H.r4, Option.bind_some, add_id (by omega) (by omega), H.w4, Option.bind_some, show ((b + n : Nat) : Int) + 1 = ((b + (n + 1) : Nat) : Int) by omega]
        exact nxt
      · have em : n2 (n + 1) = n2 n := by unfold n2; rw [if_neg (by omega)]; by_cases w : n ≤ 2
                                          · rw [if_pos w]; omega
                                          · rw [if_neg w]
        rw [em] at nxt
        rw [if_neg (by omega), H.w7, Option.bind_some, H.r4, Option.bind_some, add_id (by omega) (by omega), H.w4, Option.bind_some, show ((b + n : Nat) : Int) + 1 = ((b + (n + 1) : Nat) : Int) by omega]
        exact nxt
    · have e : rn L le 48 57 (b + n) = b + n := by rw [rn_eq (by omega), if_neg z]
      rw [e, show b + n - b = n by omega]
      exact m_lo134e H (by omega) z
theorem m_lo0 (H : LH h L le) : ∀ (k p : Nat), (p : Int) + (k : Int) = le → run (d + 3) m_Mo_looksOn 0 [(107, 108), (9, 0)] [] (hS h le (p : Int) be to va br un ke la ma) = some (0, hS h le ((te L le (sk L le p) : Nat) : Int) ((sk L le p : Nat) : Int) (tkT L le (sk L le p)) (tkV L le (sk L le p) va) br un ke la ma) := by
  intro k
  induction k with
  | zero =>
    intro p pk
    have l2 := H.2.2.2.2.1
    have c0 : ch L le p = -1 := ch_out (by omega)
    have A : ∀ be to, cal (d + 2) m_Mo_letterAt [(107, 108), (0, (p : Int))] (hS h le (p : Int) be to va br un ke la ma) = some (-1, hS h le (p : Int) be to va br un ke la ma) := fun be to => by have := m_letterAt (d := d + 1) (pl := (p : Int)) (be := be) (to := to) (va := va) (br := br) (un := un) (ke := ke) (la := la) (ma := ma) H p; rw [c0] at this; exact this
    have I1 : ∀ g : AH, cal (d + 2) m_Mo_in [(2, -1), (2, 97), (2, 122)] g = some (0, g) := fun g => by rw [m_in, bI_f (by omega)]
    have I2 : ∀ g : AH, cal (d + 2) m_Mo_in [(2, -1), (2, 48), (2, 57)] g = some (0, g) := fun g => by rw [m_in, bI_f (by omega)]
    have e : sk L le p = p := by rw [sk_eq, c0, if_neg (by decide)]
    rw [e]
    have e1 : te L le p = p := by unfold te; rw [c0, if_neg (by omega), if_neg (by omega), if_neg (by omega)]
    have e2 : tkT L le p = 4 := by unfold tkT; rw [c0, if_neg (by omega), if_neg (by omega), if_neg (by omega), if_pos (by omega)]
    have e3 : tkV L le p va = va := by unfold tkV; rw [c0, if_neg (by omega), if_neg (by omega)]
    rw [e1, e2, e3, k_Mo_looksOn_0]
    simp only [H.r4, A, Option.bind_some]
    rw [if_neg (by decide)]
    simp only [H.w5, H.r4, A, I1, I2, Option.bind_some]
    rw [if_true, if_true, if_neg (by decide), if_pos (by decide)]
    simp only [H.w6, H.r4, Option.bind_some]
    rw [if_pos (by decide), add_id (by omega) (by omega), H.w4, Option.bind_some, Int.add_zero]
  | succ k ih =>
    intro p pk
    have l0 := H.2.2.2.1
    have l2 := H.2.2.2.2.1
    have pl' : (p : Int) < le := by omega
    have c0 : ch L le p = L.getD p 0 := ch_in pl'
    have cr := H.2.2.2.2.2 p (by omega)
    rw [← c0] at cr
    have A : ∀ be to va, cal (d + 2) m_Mo_letterAt [(107, 108), (0, (p : Int))] (hS h le (p : Int) be to va br un ke la ma) = some (ch L le p, hS h le (p : Int) be to va br un ke la ma) := fun be to va => m_letterAt H p
    have I1 : ∀ g : AH, cal (d + 2) m_Mo_in [(2, ch L le p), (2, 97), (2, 122)] g = some (bI (decide (97 ≤ ch L le p ∧ ch L le p ≤ 122)), g) := fun g => m_in _ _ _
    have I2 : ∀ g : AH, cal (d + 2) m_Mo_in [(2, ch L le p), (2, 48), (2, 57)] g = some (bI (decide (48 ≤ ch L le p ∧ ch L le p ≤ 57)), g) := fun g => m_in _ _ _
    rw [k_Mo_looksOn_0]
    simp only [H.r4, A, Option.bind_some]
    by_cases z : ch L le p = 32
    · have e : sk L le p = sk L le (p + 1) := by rw [sk_eq, if_pos z]
      rw [if_pos z, e, add_id (by omega) (by omega), H.w4, Option.bind_some, show (p : Int) + 1 = ((p + 1 : Nat) : Int) by omega]
      exact ih (p + 1) (by omega)
    · have e : sk L le p = p := by rw [sk_eq, if_neg z]
      rw [if_neg z, e]
      simp only [H.w5, H.r4, A, I1, I2, Option.bind_some]
      by_cases a : 97 ≤ ch L le p ∧ ch L le p ≤ 122
      · have e1 : te L le p = rn L le 97 122 p := by unfold te; rw [if_pos a, rn_eq (by omega) p, if_pos a]
        have e2 : tkT L le p = 1 := by unfold tkT; rw [if_pos a]
        have e3 : tkV L le p va = mwV (vV L p (te L le p)) := by unfold tkV; rw [if_pos a]
        rw [bI_t a, if_neg (by decide), e3, e2, e1]
        exact m_lo57 H (k + 1) p (by omega) (by omega)
      · rw [bI_f a, if_pos rfl]
        by_cases b : 48 ≤ ch L le p ∧ ch L le p ≤ 57
        · have e1 : te L le p = rn L le 48 57 p := by unfold te; rw [if_neg a, if_pos b, rn_eq (by omega) p, if_pos b]
          have e2 : tkT L le p = if te L le p ≤ p + 2 then 2 else 5 := by unfold tkT; rw [if_neg a, if_pos b]
          have e3 : tkV L le p va = numV L p (n2 (te L le p - p)) := by unfold tkV; rw [if_neg a, if_pos b]
          rw [bI_t b, if_neg (by decide), e3, e2, e1, H.w7, Option.bind_some]
          exact m_lo134 (to := to) H (k + 1) 0 (by omega) (fun i hi => by omega)
        · have e1 : te L le p = p + 1 := by unfold te; rw [if_neg a, if_neg b, if_pos pl']
          have e2 : tkT L le p = if ch L le p = 59 then 3 else 5 := by unfold tkT; rw [if_neg a, if_neg b]; by_cases y : ch L le p = 59
                                                                       · rw [if_pos y, if_pos y]
                                                                       · rw [if_neg y, if_neg y, if_neg (by omega)]
          have e3 : tkV L le p va = va := by unfold tkV; rw [if_neg a, if_neg b]
          rw [bI_f b, if_pos rfl, e1, e2, e3]
          by_cases y : ch L le p = 59
          · rw [if_pos y, if_pos y]
            simp only [H.w6, H.r4, Option.bind_some]
            rw [if_neg (by omega), add_id (by omega) (by omega), H.w4, Option.bind_some]; rfl
          · rw [if_neg y, if_neg y, if_neg (by omega)]
            simp only [H.w6, H.r4, Option.bind_some]
            rw [if_neg (by omega), add_id (by omega) (by omega), H.w4, Option.bind_some]; rfl
theorem m_looksOn (H : LH h L le) {p : Nat} (hp : (p : Int) ≤ le) : cal (d + 3) m_Mo_looksOn [(107, 108)] (hS h le (p : Int) be to va br un ke la ma) = some (0, hS h le ((te L le (sk L le p) : Nat) : Int) ((sk L le p : Nat) : Int) (tkT L le (sk L le p)) (tkV L le (sk L le p) va) br un ke la ma) := by
  rw [k_Mo_looksOn]
  exact m_lo0 H (le.toNat - p) p (by omega)
end LK
