/-! What a step leaves as it was. -/
def Fr (P : Nat → Prop) (h h' : AH) : Prop := h'.length = h.length ∧ ∀ j : Nat, ¬ P j → h'[j]? = h[j]?
section FR
variable {P Q : Nat → Prop} {h h' h'' : AH} {n : Nat} {B : Bo} {c : Nat × List Int}
theorem Fr.len (F : Fr P h h') : h'.length = h.length := F.1
theorem Fr.g (F : Fr P h h') (j : Nat) (hj : ¬ P j) : h'[j]? = h[j]? := F.2 j hj
theorem Fr.rf : Fr P h h := ⟨rfl, fun _ _ => rfl⟩
theorem Fr.tr (F : Fr P h h') (G : Fr P h' h'') : Fr P h h'' := ⟨G.1.trans F.1, fun j hj => (G.2 j hj).trans (F.2 j hj)⟩
theorem Fr.wd (F : Fr P h h') (i : ∀ j, P j → Q j) : Fr Q h h' := ⟨F.1, fun j hj => F.2 j (fun z => hj (i j z))⟩
theorem fr_set (hn : P n) : Fr P h (h.set n c) := ⟨List.length_set, fun j hj => List.getElem?_set_ne (fun (z : n = j) => hj (by rw [← z]; exact hn))⟩
theorem fr_setB (hl : n + 3 < h.length) (hn : ∀ j, n ≤ j → j < n + 4 → P j) : Fr P h (setB h n B) := by
  refine ⟨setB_len, fun j hj => setB_ne hl ?_⟩
  by_cases a : j < n
  · exact Or.inl a
  · by_cases b : n + 4 ≤ j
    · exact Or.inr b
    · exact absurd (hn j (by omega) (by omega)) hj
theorem BdH.fr (H : BdH h n B) (F : Fr P h h') (hd : ∀ j, n ≤ j → j < n + 4 → ¬ P j) : BdH h' n B := by
  refine ⟨?_, ?_, ?_, ?_⟩
  · rw [F.g n (hd n (by omega) (by omega))]; exact H.c0
  · rw [F.g _ (hd _ (by omega) (by omega))]; exact H.c1
  · rw [F.g _ (hd _ (by omega) (by omega))]; exact H.c2
  · rw [F.g _ (hd _ (by omega) (by omega))]; exact H.c3
theorem fr_setN : Fr (fun j => j = 109) h (setN h 108 B) := fr_set rfl
end FR
/-- the model's own row of fields -/
def hM (le pl be to va br un ke la ma : Int) : List Int := [109, 110, 111, le, pl, be, to, va, br, 112, 113, un, 114, ke, 115, 116, 117, 118, 119, 120, la, 121, 122, ma, 123, 124, 125, 126, 127, 128, 129]
theorem getS {h : AH} {n : Nat} {c : Nat × List Int} (hl : n < h.length) : (h.set n c)[n]? = some c := List.getElem?_set_self hl
theorem getN {h : AH} {n m : Nat} {c : Nat × List Int} (hn : n ≠ m) : (h.set n c)[m]? = h[m]? := List.getElem?_set_ne hn
theorem gtl {h : AH} {n : Nat} {c : Nat × List Int} (e : h[n]? = some c) : n < h.length := (List.getElem?_eq_some_iff.mp e).1
/-! Rows of the model set up. -/
def bd1 (w : Int) : Bo := mkB (List.replicate 10 0) (List.replicate (2 * w).toNat 4 ++ List.replicate (10 - 2 * w).toNat 0) 0 0 w 0 0
def sf4 : Nat → List Int → Nat → List Int
  | 0, xs, _ => xs
  | k + 1, xs, c => sf4 k (xs.set (15 + c) 4) (c + 1)
theorem sf4_len : ∀ (k : Nat) (xs : List Int) (c : Nat), (sf4 k xs c).length = xs.length := by
  intro k
  induction k with
  | zero => intro xs c; rfl
  | succ k ih => intro xs c; show (sf4 k _ _).length = _; rw [ih, List.length_set]
theorem setF_len {v : Int} : ∀ (k : Nat) (xs : List Int) (c : Int), (setF v k xs c).length = xs.length := by
  intro k
  induction k with
  | zero => intro xs c; rfl
  | succ k ih => intro xs c; show (setF v k _ _).length = _; rw [ih, List.length_set]
theorem setF25 {v : Int} : ∀ xs : List Int, xs.length = 25 → setF v 25 xs 0 = List.replicate 25 v
  | [_, _, _, _, _, _, _, _, _, _, _, _, _, _, _, _, _, _, _, _, _, _, _, _, _], _ => by simp [setF, List.replicate]
section AF
variable {h : AH} {a d : Nat} {w : Int}
theorem m_af2 (ha : a < h.length) : ∀ (k : Nat) (c : Int) (xs : List Int), xs.length = 25 → 0 ≤ c → c + (k : Int) = 25 → run (d + 1) m_Mo_atFirst 2 [(120, (a : Int)), (0, w), (0, c)] [] (h.set a (20, xs)) = run (d + 1) m_Mo_atFirst 2 [(120, (a : Int)), (0, w), (0, 25)] [] (h.set a (20, setF 0 k xs c)) := by
  intro k
  induction k with
  | zero => intro c xs _ _ e; rw [show c = 25 by omega]; rfl
  | succ k ih =>
    intro c xs hx h0 e
    rw [k_Mo_atFirst_2, if_pos (by omega), wra_i (getS ha) h0 (by omega), Option.bind_some, List.set_set, add_id (by omega) (by omega)]
    exact ih _ _ (by rw [List.length_set]; exact hx) (by omega) (by omega)
theorem m_af24 (ha : a < h.length) (w2 : 2 ≤ w) (w5 : w ≤ 5) : ∀ (k c : Nat) (xs : List Int), xs.length = 25 → (c : Int) + (k : Int) = 2 * w → run (d + 1) m_Mo_atFirst 24 [(120, (a : Int)), (0, w), (0, (c : Int))] [] (h.set a (20, xs)) = some (0, h.set a (20, sf4 k xs c)) := by
  intro k
  induction k with
  | zero => intro c xs _ e; rw [k_Mo_atFirst_24, mul_id (by omega) (by omega), if_neg (by omega)]; rfl
  | succ k ih =>
    intro c xs hx e
    rw [k_Mo_atFirst_24, mul_id (by omega) (by omega), if_pos (by omega), add_id (by omega) (by omega), wra_i (getS ha) (by omega) (by omega), Option.bind_some, List.set_set, add_id (by omega) (by omega), show (15 + (c : Int)).toNat = 15 + c by omega]
    exact ih (c + 1) _ (by rw [List.length_set]; exact hx) (by omega)
theorem m_atFirst {xs : List Int} (e : h[a]? = some (20, xs)) (hx : xs.length = 25) (w2 : 2 ≤ w) (w5 : w ≤ 5) : cal (d + 1) m_Mo_atFirst [(120, (a : Int)), (0, w)] h = some (0, h.set a (20, row (bd1 w))) := by
  have ha := gtl e
  have hs : h.set a (20, xs) = h := by
    apply List.ext_getElem?
    intro j
    by_cases z : a = j
    · subst z; rw [getS ha, e]
    · rw [getN z]
  have := m_af2 (d := d) (w := w) ha 25 0 xs hx (by omega) (by omega)
  rw [hs, setF25 xs hx] at this
  rw [k_Mo_atFirst, this, k_Mo_atFirst_2, if_neg (by omega), wra_i (getS ha) (by omega) (by simp), Option.bind_some, List.set_set]
  rw [show (0 : Int) = ((0 : Nat) : Int) from rfl, m_af24 ha w2 w5 (2 * w).toNat 0 _ (by simp) (by omega)]
  rcases (show w = 2 ∨ w = 3 ∨ w = 4 ∨ w = 5 by omega) with rfl | rfl | rfl | rfl <;> rfl
end AF
