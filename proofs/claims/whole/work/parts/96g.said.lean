/-! Words, on the model's side. -/
def pkV (L : List Int) (b : Nat) : Nat → Int
  | 0 => 0
  | n + 1 => 256 * pkV L b n + L.getD (b + n) 0
def mwV (V : Int) : Int := if V = 422775452260 then 1 else if V = 495622382707 then 2 else if V = 1650553454 then 3 else if V = 1953854062 then 4 else if V = 482854660462 then 5 else if V = 1684366704 then 6 else if V = 1919509352 then 7 else if V = 108170671449444 then 8 else if V = 1835360622 then 9 else 0
def cwN (V : Int) : Int := if V = 482854660462 then 0 else if V = 1684366704 then 1 else if V = 1919509352 then 2 else if V = 108170671449444 then 3 else if V = 1835360622 then 4 else if V = 422775452260 then 5 else if V = 495622382707 then 6 else if V = 1650553454 then 7 else if V = 1953854062 then 8 else -1
theorem mw_cw (V : Int) : mwV V = if cwN V = -1 then 0 else if cwN V ≤ 4 then cwN V + 5 else cwN V - 4 := by
  by_cases z0 : V = 482854660462
  · rw [z0]; decide
  by_cases z1 : V = 1684366704
  · rw [z1]; decide
  by_cases z2 : V = 1919509352
  · rw [z2]; decide
  by_cases z3 : V = 108170671449444
  · rw [z3]; decide
  by_cases z4 : V = 1835360622
  · rw [z4]; decide
  by_cases z5 : V = 422775452260
  · rw [z5]; decide
  by_cases z6 : V = 495622382707
  · rw [z6]; decide
  by_cases z7 : V = 1650553454
  · rw [z7]; decide
  by_cases z8 : V = 1953854062
  · rw [z8]; decide
  unfold mwV cwN
  rw [if_neg z5, if_neg z6, if_neg z7, if_neg z8, if_neg z0, if_neg z1, if_neg z2, if_neg z3, if_neg z4, if_neg z0, if_neg z1, if_neg z2, if_neg z3, if_neg z4, if_neg z5, if_neg z6, if_neg z7, if_neg z8]
  rfl
theorem pk_w0 {L : List Int} {b n : Nat} (h1 : 1 ≤ n) (h6 : n ≤ 6) (lt : ∀ j, j < n → 97 ≤ L.getD (b + j) 0 ∧ L.getD (b + j) 0 ≤ 122) : pkV L b n = 482854660462 ↔ isW L b (b + n) [112, 108, 97, 105, 110] = true := by
  have e : n = 1 ∨ n = 2 ∨ n = 3 ∨ n = 4 ∨ n = 5 ∨ n = 6 := by omega
  unfold isW
  rw [Bool.and_eq_true, decide_eq_true_eq]
  have nl : ([112, 108, 97, 105, 110] : List Int).length = 5 := rfl
  rw [nl]
  have q : eqW L b [112, 108, 97, 105, 110] = true ↔ (L.getD (b + 0) 0 = 112 ∧ L.getD (b + 1) 0 = 108 ∧ L.getD (b + 2) 0 = 97 ∧ L.getD (b + 3) 0 = 105 ∧ L.getD (b + 4) 0 = 110) := by
    simp only [eqW, Bool.and_eq_true, decide_eq_true_eq, Bool.and_true, Nat.add_assoc, Nat.add_zero, Nat.reduceAdd]
  rw [q]
  rcases e with rfl | rfl | rfl | rfl | rfl | rfl
  · 
    have c0 := lt 0 (by omega)
    show 256 * (0) + L.getD (b + 0) 0 = 482854660462 ↔ _
    omega
  · 
    have c0 := lt 0 (by omega)
    have c1 := lt 1 (by omega)
    show 256 * (256 * (0) + L.getD (b + 0) 0) + L.getD (b + 1) 0 = 482854660462 ↔ _
    omega
  · 
    have c0 := lt 0 (by omega)
    have c1 := lt 1 (by omega)
    have c2 := lt 2 (by omega)
    show 256 * (256 * (256 * (0) + L.getD (b + 0) 0) + L.getD (b + 1) 0) + L.getD (b + 2) 0 = 482854660462 ↔ _
    omega
  · 
    have c0 := lt 0 (by omega)
    have c1 := lt 1 (by omega)
    have c2 := lt 2 (by omega)
    have c3 := lt 3 (by omega)
    show 256 * (256 * (256 * (256 * (0) + L.getD (b + 0) 0) + L.getD (b + 1) 0) + L.getD (b + 2) 0) + L.getD (b + 3) 0 = 482854660462 ↔ _
    omega
  · 
    have c0 := lt 0 (by omega)
    have c1 := lt 1 (by omega)
    have c2 := lt 2 (by omega)
    have c3 := lt 3 (by omega)
    have c4 := lt 4 (by omega)
    show 256 * (256 * (256 * (256 * (256 * (0) + L.getD (b + 0) 0) + L.getD (b + 1) 0) + L.getD (b + 2) 0) + L.getD (b + 3) 0) + L.getD (b + 4) 0 = 482854660462 ↔ _
    omega
  · 
    have c0 := lt 0 (by omega)
    have c1 := lt 1 (by omega)
    have c2 := lt 2 (by omega)
    have c3 := lt 3 (by omega)
    have c4 := lt 4 (by omega)
    have c5 := lt 5 (by omega)
    show 256 * (256 * (256 * (256 * (256 * (256 * (0) + L.getD (b + 0) 0) + L.getD (b + 1) 0) + L.getD (b + 2) 0) + L.getD (b + 3) 0) + L.getD (b + 4) 0) + L.getD (b + 5) 0 = 482854660462 ↔ _
    omega
theorem pk_w1 {L : List Int} {b n : Nat} (h1 : 1 ≤ n) (h6 : n ≤ 6) (lt : ∀ j, j < n → 97 ≤ L.getD (b + j) 0 ∧ L.getD (b + j) 0 ≤ 122) : pkV L b n = 1684366704 ↔ isW L b (b + n) [100, 101, 101, 112] = true := by
  have e : n = 1 ∨ n = 2 ∨ n = 3 ∨ n = 4 ∨ n = 5 ∨ n = 6 := by omega
  unfold isW
  rw [Bool.and_eq_true, decide_eq_true_eq]
  have nl : ([100, 101, 101, 112] : List Int).length = 4 := rfl
  rw [nl]
  have q : eqW L b [100, 101, 101, 112] = true ↔ (L.getD (b + 0) 0 = 100 ∧ L.getD (b + 1) 0 = 101 ∧ L.getD (b + 2) 0 = 101 ∧ L.getD (b + 3) 0 = 112) := by
    simp only [eqW, Bool.and_eq_true, decide_eq_true_eq, Bool.and_true, Nat.add_assoc, Nat.add_zero, Nat.reduceAdd]
  rw [q]
  rcases e with rfl | rfl | rfl | rfl | rfl | rfl
  · 
    have c0 := lt 0 (by omega)
    show 256 * (0) + L.getD (b + 0) 0 = 1684366704 ↔ _
    omega
  · 
    have c0 := lt 0 (by omega)
    have c1 := lt 1 (by omega)
    show 256 * (256 * (0) + L.getD (b + 0) 0) + L.getD (b + 1) 0 = 1684366704 ↔ _
    omega
  · 
    have c0 := lt 0 (by omega)
    have c1 := lt 1 (by omega)
    have c2 := lt 2 (by omega)
    show 256 * (256 * (256 * (0) + L.getD (b + 0) 0) + L.getD (b + 1) 0) + L.getD (b + 2) 0 = 1684366704 ↔ _
    omega
  · 
    have c0 := lt 0 (by omega)
    have c1 := lt 1 (by omega)
    have c2 := lt 2 (by omega)
    have c3 := lt 3 (by omega)
    show 256 * (256 * (256 * (256 * (0) + L.getD (b + 0) 0) + L.getD (b + 1) 0) + L.getD (b + 2) 0) + L.getD (b + 3) 0 = 1684366704 ↔ _
    omega
  · 
    have c0 := lt 0 (by omega)
    have c1 := lt 1 (by omega)
    have c2 := lt 2 (by omega)
    have c3 := lt 3 (by omega)
    have c4 := lt 4 (by omega)
    show 256 * (256 * (256 * (256 * (256 * (0) + L.getD (b + 0) 0) + L.getD (b + 1) 0) + L.getD (b + 2) 0) + L.getD (b + 3) 0) + L.getD (b + 4) 0 = 1684366704 ↔ _
    omega
  · 
    have c0 := lt 0 (by omega)
    have c1 := lt 1 (by omega)
    have c2 := lt 2 (by omega)
    have c3 := lt 3 (by omega)
    have c4 := lt 4 (by omega)
    have c5 := lt 5 (by omega)
    show 256 * (256 * (256 * (256 * (256 * (256 * (0) + L.getD (b + 0) 0) + L.getD (b + 1) 0) + L.getD (b + 2) 0) + L.getD (b + 3) 0) + L.getD (b + 4) 0) + L.getD (b + 5) 0 = 1684366704 ↔ _
    omega
theorem pk_w2 {L : List Int} {b n : Nat} (h1 : 1 ≤ n) (h6 : n ≤ 6) (lt : ∀ j, j < n → 97 ≤ L.getD (b + j) 0 ∧ L.getD (b + j) 0 ≤ 122) : pkV L b n = 1919509352 ↔ isW L b (b + n) [114, 105, 99, 104] = true := by
  have e : n = 1 ∨ n = 2 ∨ n = 3 ∨ n = 4 ∨ n = 5 ∨ n = 6 := by omega
  unfold isW
  rw [Bool.and_eq_true, decide_eq_true_eq]
  have nl : ([114, 105, 99, 104] : List Int).length = 4 := rfl
  rw [nl]
  have q : eqW L b [114, 105, 99, 104] = true ↔ (L.getD (b + 0) 0 = 114 ∧ L.getD (b + 1) 0 = 105 ∧ L.getD (b + 2) 0 = 99 ∧ L.getD (b + 3) 0 = 104) := by
    simp only [eqW, Bool.and_eq_true, decide_eq_true_eq, Bool.and_true, Nat.add_assoc, Nat.add_zero, Nat.reduceAdd]
  rw [q]
  rcases e with rfl | rfl | rfl | rfl | rfl | rfl
  · 
    have c0 := lt 0 (by omega)
    show 256 * (0) + L.getD (b + 0) 0 = 1919509352 ↔ _
    omega
  · 
    have c0 := lt 0 (by omega)
    have c1 := lt 1 (by omega)
    show 256 * (256 * (0) + L.getD (b + 0) 0) + L.getD (b + 1) 0 = 1919509352 ↔ _
    omega
  · 
    have c0 := lt 0 (by omega)
    have c1 := lt 1 (by omega)
    have c2 := lt 2 (by omega)
    show 256 * (256 * (256 * (0) + L.getD (b + 0) 0) + L.getD (b + 1) 0) + L.getD (b + 2) 0 = 1919509352 ↔ _
    omega
  · 
    have c0 := lt 0 (by omega)
    have c1 := lt 1 (by omega)
    have c2 := lt 2 (by omega)
    have c3 := lt 3 (by omega)
    show 256 * (256 * (256 * (256 * (0) + L.getD (b + 0) 0) + L.getD (b + 1) 0) + L.getD (b + 2) 0) + L.getD (b + 3) 0 = 1919509352 ↔ _
    omega
  · 
    have c0 := lt 0 (by omega)
    have c1 := lt 1 (by omega)
    have c2 := lt 2 (by omega)
    have c3 := lt 3 (by omega)
    have c4 := lt 4 (by omega)
    show 256 * (256 * (256 * (256 * (256 * (0) + L.getD (b + 0) 0) + L.getD (b + 1) 0) + L.getD (b + 2) 0) + L.getD (b + 3) 0) + L.getD (b + 4) 0 = 1919509352 ↔ _
    omega
  · 
    have c0 := lt 0 (by omega)
    have c1 := lt 1 (by omega)
    have c2 := lt 2 (by omega)
    have c3 := lt 3 (by omega)
    have c4 := lt 4 (by omega)
    have c5 := lt 5 (by omega)
    show 256 * (256 * (256 * (256 * (256 * (256 * (0) + L.getD (b + 0) 0) + L.getD (b + 1) 0) + L.getD (b + 2) 0) + L.getD (b + 3) 0) + L.getD (b + 4) 0) + L.getD (b + 5) 0 = 1919509352 ↔ _
    omega
theorem pk_w3 {L : List Int} {b n : Nat} (h1 : 1 ≤ n) (h6 : n ≤ 6) (lt : ∀ j, j < n → 97 ≤ L.getD (b + j) 0 ∧ L.getD (b + j) 0 ≤ 122) : pkV L b n = 108170671449444 ↔ isW L b (b + n) [98, 97, 114, 114, 101, 100] = true := by
  have e : n = 1 ∨ n = 2 ∨ n = 3 ∨ n = 4 ∨ n = 5 ∨ n = 6 := by omega
  unfold isW
  rw [Bool.and_eq_true, decide_eq_true_eq]
  have nl : ([98, 97, 114, 114, 101, 100] : List Int).length = 6 := rfl
  rw [nl]
  have q : eqW L b [98, 97, 114, 114, 101, 100] = true ↔ (L.getD (b + 0) 0 = 98 ∧ L.getD (b + 1) 0 = 97 ∧ L.getD (b + 2) 0 = 114 ∧ L.getD (b + 3) 0 = 114 ∧ L.getD (b + 4) 0 = 101 ∧ L.getD (b + 5) 0 = 100) := by
    simp only [eqW, Bool.and_eq_true, decide_eq_true_eq, Bool.and_true, Nat.add_assoc, Nat.add_zero, Nat.reduceAdd]
  rw [q]
  rcases e with rfl | rfl | rfl | rfl | rfl | rfl
  · 
    have c0 := lt 0 (by omega)
    show 256 * (0) + L.getD (b + 0) 0 = 108170671449444 ↔ _
    omega
  · 
    have c0 := lt 0 (by omega)
    have c1 := lt 1 (by omega)
    show 256 * (256 * (0) + L.getD (b + 0) 0) + L.getD (b + 1) 0 = 108170671449444 ↔ _
    omega
  · 
    have c0 := lt 0 (by omega)
    have c1 := lt 1 (by omega)
    have c2 := lt 2 (by omega)
    show 256 * (256 * (256 * (0) + L.getD (b + 0) 0) + L.getD (b + 1) 0) + L.getD (b + 2) 0 = 108170671449444 ↔ _
    omega
  · 
    have c0 := lt 0 (by omega)
    have c1 := lt 1 (by omega)
    have c2 := lt 2 (by omega)
    have c3 := lt 3 (by omega)
    show 256 * (256 * (256 * (256 * (0) + L.getD (b + 0) 0) + L.getD (b + 1) 0) + L.getD (b + 2) 0) + L.getD (b + 3) 0 = 108170671449444 ↔ _
    omega
  · 
    have c0 := lt 0 (by omega)
    have c1 := lt 1 (by omega)
    have c2 := lt 2 (by omega)
    have c3 := lt 3 (by omega)
    have c4 := lt 4 (by omega)
    show 256 * (256 * (256 * (256 * (256 * (0) + L.getD (b + 0) 0) + L.getD (b + 1) 0) + L.getD (b + 2) 0) + L.getD (b + 3) 0) + L.getD (b + 4) 0 = 108170671449444 ↔ _
    omega
  · 
    have c0 := lt 0 (by omega)
    have c1 := lt 1 (by omega)
    have c2 := lt 2 (by omega)
    have c3 := lt 3 (by omega)
    have c4 := lt 4 (by omega)
    have c5 := lt 5 (by omega)
    show 256 * (256 * (256 * (256 * (256 * (256 * (0) + L.getD (b + 0) 0) + L.getD (b + 1) 0) + L.getD (b + 2) 0) + L.getD (b + 3) 0) + L.getD (b + 4) 0) + L.getD (b + 5) 0 = 108170671449444 ↔ _
    omega
theorem pk_w4 {L : List Int} {b n : Nat} (h1 : 1 ≤ n) (h6 : n ≤ 6) (lt : ∀ j, j < n → 97 ≤ L.getD (b + j) 0 ∧ L.getD (b + j) 0 ≤ 122) : pkV L b n = 1835360622 ↔ isW L b (b + n) [109, 101, 97, 110] = true := by
  have e : n = 1 ∨ n = 2 ∨ n = 3 ∨ n = 4 ∨ n = 5 ∨ n = 6 := by omega
  unfold isW
  rw [Bool.and_eq_true, decide_eq_true_eq]
  have nl : ([109, 101, 97, 110] : List Int).length = 4 := rfl
  rw [nl]
  have q : eqW L b [109, 101, 97, 110] = true ↔ (L.getD (b + 0) 0 = 109 ∧ L.getD (b + 1) 0 = 101 ∧ L.getD (b + 2) 0 = 97 ∧ L.getD (b + 3) 0 = 110) := by
    simp only [eqW, Bool.and_eq_true, decide_eq_true_eq, Bool.and_true, Nat.add_assoc, Nat.add_zero, Nat.reduceAdd]
  rw [q]
  rcases e with rfl | rfl | rfl | rfl | rfl | rfl
  · 
    have c0 := lt 0 (by omega)
    show 256 * (0) + L.getD (b + 0) 0 = 1835360622 ↔ _
    omega
  · 
    have c0 := lt 0 (by omega)
    have c1 := lt 1 (by omega)
    show 256 * (256 * (0) + L.getD (b + 0) 0) + L.getD (b + 1) 0 = 1835360622 ↔ _
    omega
  · 
    have c0 := lt 0 (by omega)
    have c1 := lt 1 (by omega)
    have c2 := lt 2 (by omega)
    show 256 * (256 * (256 * (0) + L.getD (b + 0) 0) + L.getD (b + 1) 0) + L.getD (b + 2) 0 = 1835360622 ↔ _
    omega
  · 
    have c0 := lt 0 (by omega)
    have c1 := lt 1 (by omega)
    have c2 := lt 2 (by omega)
    have c3 := lt 3 (by omega)
    show 256 * (256 * (256 * (256 * (0) + L.getD (b + 0) 0) + L.getD (b + 1) 0) + L.getD (b + 2) 0) + L.getD (b + 3) 0 = 1835360622 ↔ _
    omega
  · 
    have c0 := lt 0 (by omega)
    have c1 := lt 1 (by omega)
    have c2 := lt 2 (by omega)
    have c3 := lt 3 (by omega)
    have c4 := lt 4 (by omega)
    show 256 * (256 * (256 * (256 * (256 * (0) + L.getD (b + 0) 0) + L.getD (b + 1) 0) + L.getD (b + 2) 0) + L.getD (b + 3) 0) + L.getD (b + 4) 0 = 1835360622 ↔ _
    omega
  · 
    have c0 := lt 0 (by omega)
    have c1 := lt 1 (by omega)
    have c2 := lt 2 (by omega)
    have c3 := lt 3 (by omega)
    have c4 := lt 4 (by omega)
    have c5 := lt 5 (by omega)
    show 256 * (256 * (256 * (256 * (256 * (256 * (0) + L.getD (b + 0) 0) + L.getD (b + 1) 0) + L.getD (b + 2) 0) + L.getD (b + 3) 0) + L.getD (b + 4) 0) + L.getD (b + 5) 0 = 1835360622 ↔ _
    omega
theorem pk_w5 {L : List Int} {b n : Nat} (h1 : 1 ≤ n) (h6 : n ≤ 6) (lt : ∀ j, j < n → 97 ≤ L.getD (b + j) 0 ∧ L.getD (b + j) 0 ≤ 122) : pkV L b n = 422775452260 ↔ isW L b (b + n) [98, 111, 97, 114, 100] = true := by
  have e : n = 1 ∨ n = 2 ∨ n = 3 ∨ n = 4 ∨ n = 5 ∨ n = 6 := by omega
  unfold isW
  rw [Bool.and_eq_true, decide_eq_true_eq]
  have nl : ([98, 111, 97, 114, 100] : List Int).length = 5 := rfl
  rw [nl]
  have q : eqW L b [98, 111, 97, 114, 100] = true ↔ (L.getD (b + 0) 0 = 98 ∧ L.getD (b + 1) 0 = 111 ∧ L.getD (b + 2) 0 = 97 ∧ L.getD (b + 3) 0 = 114 ∧ L.getD (b + 4) 0 = 100) := by
    simp only [eqW, Bool.and_eq_true, decide_eq_true_eq, Bool.and_true, Nat.add_assoc, Nat.add_zero, Nat.reduceAdd]
  rw [q]
  rcases e with rfl | rfl | rfl | rfl | rfl | rfl
  · 
    have c0 := lt 0 (by omega)
    show 256 * (0) + L.getD (b + 0) 0 = 422775452260 ↔ _
    omega
  · 
    have c0 := lt 0 (by omega)
    have c1 := lt 1 (by omega)
    show 256 * (256 * (0) + L.getD (b + 0) 0) + L.getD (b + 1) 0 = 422775452260 ↔ _
    omega
  · 
    have c0 := lt 0 (by omega)
    have c1 := lt 1 (by omega)
    have c2 := lt 2 (by omega)
    show 256 * (256 * (256 * (0) + L.getD (b + 0) 0) + L.getD (b + 1) 0) + L.getD (b + 2) 0 = 422775452260 ↔ _
    omega
  · 
    have c0 := lt 0 (by omega)
    have c1 := lt 1 (by omega)
    have c2 := lt 2 (by omega)
    have c3 := lt 3 (by omega)
    show 256 * (256 * (256 * (256 * (0) + L.getD (b + 0) 0) + L.getD (b + 1) 0) + L.getD (b + 2) 0) + L.getD (b + 3) 0 = 422775452260 ↔ _
    omega
  · 
    have c0 := lt 0 (by omega)
    have c1 := lt 1 (by omega)
    have c2 := lt 2 (by omega)
    have c3 := lt 3 (by omega)
    have c4 := lt 4 (by omega)
    show 256 * (256 * (256 * (256 * (256 * (0) + L.getD (b + 0) 0) + L.getD (b + 1) 0) + L.getD (b + 2) 0) + L.getD (b + 3) 0) + L.getD (b + 4) 0 = 422775452260 ↔ _
    omega
  · 
    have c0 := lt 0 (by omega)
    have c1 := lt 1 (by omega)
    have c2 := lt 2 (by omega)
    have c3 := lt 3 (by omega)
    have c4 := lt 4 (by omega)
    have c5 := lt 5 (by omega)
    show 256 * (256 * (256 * (256 * (256 * (256 * (0) + L.getD (b + 0) 0) + L.getD (b + 1) 0) + L.getD (b + 2) 0) + L.getD (b + 3) 0) + L.getD (b + 4) 0) + L.getD (b + 5) 0 = 422775452260 ↔ _
    omega
theorem pk_w6 {L : List Int} {b n : Nat} (h1 : 1 ≤ n) (h6 : n ≤ 6) (lt : ∀ j, j < n → 97 ≤ L.getD (b + j) 0 ∧ L.getD (b + j) 0 ≤ 122) : pkV L b n = 495622382707 ↔ isW L b (b + n) [115, 101, 101, 100, 115] = true := by
  have e : n = 1 ∨ n = 2 ∨ n = 3 ∨ n = 4 ∨ n = 5 ∨ n = 6 := by omega
  unfold isW
  rw [Bool.and_eq_true, decide_eq_true_eq]
  have nl : ([115, 101, 101, 100, 115] : List Int).length = 5 := rfl
  rw [nl]
  have q : eqW L b [115, 101, 101, 100, 115] = true ↔ (L.getD (b + 0) 0 = 115 ∧ L.getD (b + 1) 0 = 101 ∧ L.getD (b + 2) 0 = 101 ∧ L.getD (b + 3) 0 = 100 ∧ L.getD (b + 4) 0 = 115) := by
    simp only [eqW, Bool.and_eq_true, decide_eq_true_eq, Bool.and_true, Nat.add_assoc, Nat.add_zero, Nat.reduceAdd]
  rw [q]
  rcases e with rfl | rfl | rfl | rfl | rfl | rfl
  · 
    have c0 := lt 0 (by omega)
    show 256 * (0) + L.getD (b + 0) 0 = 495622382707 ↔ _
    omega
  · 
    have c0 := lt 0 (by omega)
    have c1 := lt 1 (by omega)
    show 256 * (256 * (0) + L.getD (b + 0) 0) + L.getD (b + 1) 0 = 495622382707 ↔ _
    omega
  · 
    have c0 := lt 0 (by omega)
    have c1 := lt 1 (by omega)
    have c2 := lt 2 (by omega)
    show 256 * (256 * (256 * (0) + L.getD (b + 0) 0) + L.getD (b + 1) 0) + L.getD (b + 2) 0 = 495622382707 ↔ _
    omega
  · 
    have c0 := lt 0 (by omega)
    have c1 := lt 1 (by omega)
    have c2 := lt 2 (by omega)
    have c3 := lt 3 (by omega)
    show 256 * (256 * (256 * (256 * (0) + L.getD (b + 0) 0) + L.getD (b + 1) 0) + L.getD (b + 2) 0) + L.getD (b + 3) 0 = 495622382707 ↔ _
    omega
  · 
    have c0 := lt 0 (by omega)
    have c1 := lt 1 (by omega)
    have c2 := lt 2 (by omega)
    have c3 := lt 3 (by omega)
    have c4 := lt 4 (by omega)
    show 256 * (256 * (256 * (256 * (256 * (0) + L.getD (b + 0) 0) + L.getD (b + 1) 0) + L.getD (b + 2) 0) + L.getD (b + 3) 0) + L.getD (b + 4) 0 = 495622382707 ↔ _
    omega
  · 
    have c0 := lt 0 (by omega)
    have c1 := lt 1 (by omega)
    have c2 := lt 2 (by omega)
    have c3 := lt 3 (by omega)
    have c4 := lt 4 (by omega)
    have c5 := lt 5 (by omega)
    show 256 * (256 * (256 * (256 * (256 * (256 * (0) + L.getD (b + 0) 0) + L.getD (b + 1) 0) + L.getD (b + 2) 0) + L.getD (b + 3) 0) + L.getD (b + 4) 0) + L.getD (b + 5) 0 = 495622382707 ↔ _
    omega
theorem pk_w7 {L : List Int} {b n : Nat} (h1 : 1 ≤ n) (h6 : n ≤ 6) (lt : ∀ j, j < n → 97 ≤ L.getD (b + j) 0 ∧ L.getD (b + j) 0 ≤ 122) : pkV L b n = 1650553454 ↔ isW L b (b + n) [98, 97, 114, 110] = true := by
  have e : n = 1 ∨ n = 2 ∨ n = 3 ∨ n = 4 ∨ n = 5 ∨ n = 6 := by omega
  unfold isW
  rw [Bool.and_eq_true, decide_eq_true_eq]
  have nl : ([98, 97, 114, 110] : List Int).length = 4 := rfl
  rw [nl]
  have q : eqW L b [98, 97, 114, 110] = true ↔ (L.getD (b + 0) 0 = 98 ∧ L.getD (b + 1) 0 = 97 ∧ L.getD (b + 2) 0 = 114 ∧ L.getD (b + 3) 0 = 110) := by
    simp only [eqW, Bool.and_eq_true, decide_eq_true_eq, Bool.and_true, Nat.add_assoc, Nat.add_zero, Nat.reduceAdd]
  rw [q]
  rcases e with rfl | rfl | rfl | rfl | rfl | rfl
  · 
    have c0 := lt 0 (by omega)
    show 256 * (0) + L.getD (b + 0) 0 = 1650553454 ↔ _
    omega
  · 
    have c0 := lt 0 (by omega)
    have c1 := lt 1 (by omega)
    show 256 * (256 * (0) + L.getD (b + 0) 0) + L.getD (b + 1) 0 = 1650553454 ↔ _
    omega
  · 
    have c0 := lt 0 (by omega)
    have c1 := lt 1 (by omega)
    have c2 := lt 2 (by omega)
    show 256 * (256 * (256 * (0) + L.getD (b + 0) 0) + L.getD (b + 1) 0) + L.getD (b + 2) 0 = 1650553454 ↔ _
    omega
  · 
    have c0 := lt 0 (by omega)
    have c1 := lt 1 (by omega)
    have c2 := lt 2 (by omega)
    have c3 := lt 3 (by omega)
    show 256 * (256 * (256 * (256 * (0) + L.getD (b + 0) 0) + L.getD (b + 1) 0) + L.getD (b + 2) 0) + L.getD (b + 3) 0 = 1650553454 ↔ _
    omega
  · 
    have c0 := lt 0 (by omega)
    have c1 := lt 1 (by omega)
    have c2 := lt 2 (by omega)
    have c3 := lt 3 (by omega)
    have c4 := lt 4 (by omega)
    show 256 * (256 * (256 * (256 * (256 * (0) + L.getD (b + 0) 0) + L.getD (b + 1) 0) + L.getD (b + 2) 0) + L.getD (b + 3) 0) + L.getD (b + 4) 0 = 1650553454 ↔ _
    omega
  · 
    have c0 := lt 0 (by omega)
    have c1 := lt 1 (by omega)
    have c2 := lt 2 (by omega)
    have c3 := lt 3 (by omega)
    have c4 := lt 4 (by omega)
    have c5 := lt 5 (by omega)
    show 256 * (256 * (256 * (256 * (256 * (256 * (0) + L.getD (b + 0) 0) + L.getD (b + 1) 0) + L.getD (b + 2) 0) + L.getD (b + 3) 0) + L.getD (b + 4) 0) + L.getD (b + 5) 0 = 1650553454 ↔ _
    omega
theorem pk_w8 {L : List Int} {b n : Nat} (h1 : 1 ≤ n) (h6 : n ≤ 6) (lt : ∀ j, j < n → 97 ≤ L.getD (b + j) 0 ∧ L.getD (b + j) 0 ≤ 122) : pkV L b n = 1953854062 ↔ isW L b (b + n) [116, 117, 114, 110] = true := by
  have e : n = 1 ∨ n = 2 ∨ n = 3 ∨ n = 4 ∨ n = 5 ∨ n = 6 := by omega
  unfold isW
  rw [Bool.and_eq_true, decide_eq_true_eq]
  have nl : ([116, 117, 114, 110] : List Int).length = 4 := rfl
  rw [nl]
  have q : eqW L b [116, 117, 114, 110] = true ↔ (L.getD (b + 0) 0 = 116 ∧ L.getD (b + 1) 0 = 117 ∧ L.getD (b + 2) 0 = 114 ∧ L.getD (b + 3) 0 = 110) := by
    simp only [eqW, Bool.and_eq_true, decide_eq_true_eq, Bool.and_true, Nat.add_assoc, Nat.add_zero, Nat.reduceAdd]
  rw [q]
  rcases e with rfl | rfl | rfl | rfl | rfl | rfl
  · 
    have c0 := lt 0 (by omega)
    show 256 * (0) + L.getD (b + 0) 0 = 1953854062 ↔ _
    omega
  · 
    have c0 := lt 0 (by omega)
    have c1 := lt 1 (by omega)
    show 256 * (256 * (0) + L.getD (b + 0) 0) + L.getD (b + 1) 0 = 1953854062 ↔ _
    omega
  · 
    have c0 := lt 0 (by omega)
    have c1 := lt 1 (by omega)
    have c2 := lt 2 (by omega)
    show 256 * (256 * (256 * (0) + L.getD (b + 0) 0) + L.getD (b + 1) 0) + L.getD (b + 2) 0 = 1953854062 ↔ _
    omega
  · 
    have c0 := lt 0 (by omega)
    have c1 := lt 1 (by omega)
    have c2 := lt 2 (by omega)
    have c3 := lt 3 (by omega)
    show 256 * (256 * (256 * (256 * (0) + L.getD (b + 0) 0) + L.getD (b + 1) 0) + L.getD (b + 2) 0) + L.getD (b + 3) 0 = 1953854062 ↔ _
    omega
  · 
    have c0 := lt 0 (by omega)
    have c1 := lt 1 (by omega)
    have c2 := lt 2 (by omega)
    have c3 := lt 3 (by omega)
    have c4 := lt 4 (by omega)
    show 256 * (256 * (256 * (256 * (256 * (0) + L.getD (b + 0) 0) + L.getD (b + 1) 0) + L.getD (b + 2) 0) + L.getD (b + 3) 0) + L.getD (b + 4) 0 = 1953854062 ↔ _
    omega
  · 
    have c0 := lt 0 (by omega)
    have c1 := lt 1 (by omega)
    have c2 := lt 2 (by omega)
    have c3 := lt 3 (by omega)
    have c4 := lt 4 (by omega)
    have c5 := lt 5 (by omega)
    show 256 * (256 * (256 * (256 * (256 * (256 * (0) + L.getD (b + 0) 0) + L.getD (b + 1) 0) + L.getD (b + 2) 0) + L.getD (b + 3) 0) + L.getD (b + 4) 0) + L.getD (b + 5) 0 = 1953854062 ↔ _
    omega
theorem pkV_b {L : List Int} {b : Nat} : ∀ n : Nat, n ≤ 6 → (∀ j, j < n → 0 ≤ L.getD (b + j) 0 ∧ L.getD (b + j) 0 ≤ 255) → 0 ≤ pkV L b n ∧ pkV L b n < ((256 ^ n : Nat) : Int) := by
  intro n
  induction n with
  | zero => intro _ _; show (0 : Int) ≤ 0 ∧ (0 : Int) < ((256 ^ 0 : Nat) : Int); decide
  | succ n ih =>
    intro h q
    have i := ih (by omega) (fun j hj => q j (by omega))
    have c := q n (by omega)
    have e : ((256 ^ (n + 1) : Nat) : Int) = 256 * ((256 ^ n : Nat) : Int) := by rw [Nat.pow_succ]; omega
    rw [e]
    show 0 ≤ 256 * pkV L b n + L.getD (b + n) 0 ∧ 256 * pkV L b n + L.getD (b + n) 0 < _
    omega
def vV (L : List Int) (b e : Nat) : Int := if e ≤ b + 6 then pkV L b (e - b) else 0
theorem cwd_V {L : List Int} {b e : Nat} (be : b < e) (lt : ∀ j, b + j < e → 97 ≤ L.getD (b + j) 0 ∧ L.getD (b + j) 0 ≤ 122) : cwd L b e = cwN (vV L b e) := by
  unfold vV
  by_cases z : e ≤ b + 6
  · rw [if_pos z]
    obtain ⟨n, rfl⟩ : ∃ n, e = b + n := ⟨e - b, by omega⟩
    rw [show b + n - b = n by omega]
    unfold cwd cwN
    have q : ∀ j, j < n → 97 ≤ L.getD (b + j) 0 ∧ L.getD (b + j) 0 ≤ 122 := fun j hj => lt j (by omega)
    simp only [← pk_w0 (L := L) (b := b) (n := n) (by omega) (by omega) q, ← pk_w1 (L := L) (b := b) (n := n) (by omega) (by omega) q, ← pk_w2 (L := L) (b := b) (n := n) (by omega) (by omega) q, ← pk_w3 (L := L) (b := b) (n := n) (by omega) (by omega) q, ← pk_w4 (L := L) (b := b) (n := n) (by omega) (by omega) q, ← pk_w5 (L := L) (b := b) (n := n) (by omega) (by omega) q, ← pk_w6 (L := L) (b := b) (n := n) (by omega) (by omega) q, ← pk_w7 (L := L) (b := b) (n := n) (by omega) (by omega) q, ← pk_w8 (L := L) (b := b) (n := n) (by omega) (by omega) q]
  · rw [if_neg z]
    unfold cwd
    have no : ∀ s : List Int, s.length ≤ 6 → ¬ (isW L b e s = true) := fun s hs q => by
      unfold isW at q
      rw [Bool.and_eq_true, decide_eq_true_eq] at q
      omega
    rw [if_neg (no [112, 108, 97, 105, 110] (by decide)), if_neg (no [100, 101, 101, 112] (by decide)), if_neg (no [114, 105, 99, 104] (by decide)), if_neg (no [98, 97, 114, 114, 101, 100] (by decide)), if_neg (no [109, 101, 97, 110] (by decide)), if_neg (no [98, 111, 97, 114, 100] (by decide)), if_neg (no [115, 101, 101, 100, 115] (by decide)), if_neg (no [98, 97, 114, 110] (by decide)), if_neg (no [116, 117, 114, 110] (by decide))]
    rfl
section MW
variable {h : AH} {L : List Int} {d : Nat} {le pl be to va br un ke la ma : Int}
theorem lcmp0 (x y : Int) : (a_lcmp x y = 0) = (x = y) := by
  rw [a_lcmp_def]
  apply propext
  by_cases z : y < x
  · rw [if_pos z]; omega
  · rw [if_neg z]
    by_cases w : x = y
    · rw [if_pos w]; omega
    · rw [if_neg w]; omega
theorem m_w5 : cal (d + 1) m_Mo_word [(2, 0), (2, 98), (2, 111), (2, 97), (2, 114), (2, 100)] h = some (422775452260, h) := by
  rw [k_Mo_word]
  have e : a_lor (a_lor (a_lor (a_lor (a_lor (a_lshl 0 40) (a_lshl 98 32)) (a_lshl 111 24)) (a_lshl 97 16)) (a_lshl 114 8)) 100 = 422775452260 := by
    simp only [a_lor_def, a_lshl_def]
    decide +kernel
  rw [e]
theorem m_w6 : cal (d + 1) m_Mo_word [(2, 0), (2, 115), (2, 101), (2, 101), (2, 100), (2, 115)] h = some (495622382707, h) := by
  rw [k_Mo_word]
  have e : a_lor (a_lor (a_lor (a_lor (a_lor (a_lshl 0 40) (a_lshl 115 32)) (a_lshl 101 24)) (a_lshl 101 16)) (a_lshl 100 8)) 115 = 495622382707 := by
    simp only [a_lor_def, a_lshl_def]
    decide +kernel
  rw [e]
theorem m_w7 : cal (d + 1) m_Mo_word [(2, 0), (2, 0), (2, 98), (2, 97), (2, 114), (2, 110)] h = some (1650553454, h) := by
  rw [k_Mo_word]
  have e : a_lor (a_lor (a_lor (a_lor (a_lor (a_lshl 0 40) (a_lshl 0 32)) (a_lshl 98 24)) (a_lshl 97 16)) (a_lshl 114 8)) 110 = 1650553454 := by
    simp only [a_lor_def, a_lshl_def]
    decide +kernel
  rw [e]
theorem m_w8 : cal (d + 1) m_Mo_word [(2, 0), (2, 0), (2, 116), (2, 117), (2, 114), (2, 110)] h = some (1953854062, h) := by
  rw [k_Mo_word]
  have e : a_lor (a_lor (a_lor (a_lor (a_lor (a_lshl 0 40) (a_lshl 0 32)) (a_lshl 116 24)) (a_lshl 117 16)) (a_lshl 114 8)) 110 = 1953854062 := by
    simp only [a_lor_def, a_lshl_def]
    decide +kernel
  rw [e]
theorem m_w0 : cal (d + 1) m_Mo_word [(2, 0), (2, 112), (2, 108), (2, 97), (2, 105), (2, 110)] h = some (482854660462, h) := by
  rw [k_Mo_word]
  have e : a_lor (a_lor (a_lor (a_lor (a_lor (a_lshl 0 40) (a_lshl 112 32)) (a_lshl 108 24)) (a_lshl 97 16)) (a_lshl 105 8)) 110 = 482854660462 := by
    simp only [a_lor_def, a_lshl_def]
    decide +kernel
  rw [e]
theorem m_w1 : cal (d + 1) m_Mo_word [(2, 0), (2, 0), (2, 100), (2, 101), (2, 101), (2, 112)] h = some (1684366704, h) := by
  rw [k_Mo_word]
  have e : a_lor (a_lor (a_lor (a_lor (a_lor (a_lshl 0 40) (a_lshl 0 32)) (a_lshl 100 24)) (a_lshl 101 16)) (a_lshl 101 8)) 112 = 1684366704 := by
    simp only [a_lor_def, a_lshl_def]
    decide +kernel
  rw [e]
theorem m_w2 : cal (d + 1) m_Mo_word [(2, 0), (2, 0), (2, 114), (2, 105), (2, 99), (2, 104)] h = some (1919509352, h) := by
  rw [k_Mo_word]
  have e : a_lor (a_lor (a_lor (a_lor (a_lor (a_lshl 0 40) (a_lshl 0 32)) (a_lshl 114 24)) (a_lshl 105 16)) (a_lshl 99 8)) 104 = 1919509352 := by
    simp only [a_lor_def, a_lshl_def]
    decide +kernel
  rw [e]
theorem m_w3 : cal (d + 1) m_Mo_word [(2, 98), (2, 97), (2, 114), (2, 114), (2, 101), (2, 100)] h = some (108170671449444, h) := by
  rw [k_Mo_word]
  have e : a_lor (a_lor (a_lor (a_lor (a_lor (a_lshl 98 40) (a_lshl 97 32)) (a_lshl 114 24)) (a_lshl 114 16)) (a_lshl 101 8)) 100 = 108170671449444 := by
    simp only [a_lor_def, a_lshl_def]
    decide +kernel
  rw [e]
theorem m_w4 : cal (d + 1) m_Mo_word [(2, 0), (2, 0), (2, 109), (2, 101), (2, 97), (2, 110)] h = some (1835360622, h) := by
  rw [k_Mo_word]
  have e : a_lor (a_lor (a_lor (a_lor (a_lor (a_lshl 0 40) (a_lshl 0 32)) (a_lshl 109 24)) (a_lshl 101 16)) (a_lshl 97 8)) 110 = 1835360622 := by
    simp only [a_lor_def, a_lshl_def]
    decide +kernel
  rw [e]
theorem m_sa5e {x b e : Int} {V : Int} (q : ¬ x < e) : run (d + 2) m_Mo_said 5 [(107, 108), (0, b), (0, e), (2, V), (8, 0), (0, x)] [] h = some (mwV V, h) := by
  rw [k_Mo_said_5, if_neg q]
  simp only [m_w0, m_w1, m_w2, m_w3, m_w4, m_w5, m_w6, m_w7, m_w8, Option.bind_some, lcmp0, k_Mo_said_292]
  unfold mwV
  simp only [ifs]
theorem m_said (hm : h[108]? = some (7, hM le pl be to va br un ke la ma)) (eL : h[111]? = some (20, L)) (lL : L.length = 200) (q : ∀ j : Nat, j < 200 → 0 ≤ L.getD j 0 ∧ L.getD j 0 ≤ 255) {b e : Nat} (be' : b ≤ e) (e2 : e ≤ 200) : cal (d + 2) m_Mo_said [(107, 108), (0, (b : Int)), (0, (e : Int))] h = some (mwV (vV L b e), h) := by
  rw [k_Mo_said]
  unfold vV
  have r2 : rdr 7 h 108 2 = some 111 := hmr hm rfl (by omega)
  by_cases z : e ≤ b + 6
  · rw [if_pos z]
    have LP : ∀ (k n : Nat), b + n + k = e → run (d + 2) m_Mo_said 5 [(107, 108), (0, (b : Int)), (0, (e : Int)), (2, pkV L b n), (8, 0), (0, ((b + n : Nat) : Int))] [] h = some (mwV (pkV L b (n + k)), h) := by
      intro k
      induction k with
      | zero => intro n nk; exact m_sa5e (by omega)
      | succ k ih =>
        intro n nk
        have bd := pkV_b (L := L) (b := b) n (by omega) (fun j hj => q _ (by omega))
        have p5 : ((256 ^ n : Nat) : Int) ≤ 1099511627776 := by
          have : 256 ^ n ≤ 256 ^ 5 := Nat.pow_le_pow_right (by omega) (by omega)
          omega
        have c := q (b + n) (by omega)
        have rL := rdA (n := 111) (i := ((b + n : Nat) : Int)) eL (by omega) (by omega)
        rw [Int.toNat_natCast] at rL
        rw [k_Mo_said_5, if_pos (by omega), sub_id (by omega) (by omega), if_neg (by omega), r2, Option.bind_some]
        show (rda 20 h 111 ((b + n : Nat) : Int)).bind _ = _
        rw [show rda 20 h 111 ((b + n : Nat) : Int) = some (L.getD (b + n) 0) from rL, Option.bind_some, k_Mo_said_36, pk (by omega) (by omega) (by omega) (by omega), add_id (by omega) (by omega), show ((b + n : Nat) : Int) + 1 = ((b + (n + 1) : Nat) : Int) by omega]
        have := ih (n + 1) (by omega)
        rw [show n + 1 + k = n + (k + 1) by omega] at this
        exact this
    have := LP (e - b) 0 (by omega)
    rw [Nat.zero_add] at this
    exact this
  · rw [if_neg z]
    have LP : ∀ (k n : Nat), n + k = e → b ≤ n → run (d + 2) m_Mo_said 5 [(107, 108), (0, (b : Int)), (0, (e : Int)), (2, 0), (8, 0), (0, (n : Int))] [] h = some (mwV 0, h) := by
      intro k
      induction k with
      | zero => intro n nk _; exact m_sa5e (by omega)
      | succ k ih =>
        intro n nk bn
        rw [k_Mo_said_5, if_pos (by omega), sub_id (by omega) (by omega), if_pos (by omega), k_Mo_said_36, add_id (by omega) (by omega), show (n : Int) + 1 = ((n + 1 : Nat) : Int) by omega]
        exact ih (n + 1) (by omega) (by omega)
    exact LP (e - b) b (by omega) (by omega)
end MW
