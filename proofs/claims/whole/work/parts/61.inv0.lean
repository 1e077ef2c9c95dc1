/-! The state at first. -/
theorem ten {i : Nat} (h : i < 10) : i = 0 ∨ i = 1 ∨ i = 2 ∨ i = 3 ∨ i = 4 ∨ i = 5 ∨ i = 6 ∨ i = 7 ∨ i = 8 ∨ i = 9 := by omega
theorem ok_bd0 {w : Int} (w2 : 2 ≤ w) (w5 : w ≤ 5) : BoOK (bd0 w) := by
  refine ⟨w2, w5, rfl, rfl, fun i hi => ?_, fun i hi => ?_, Or.inl rfl, (by decide : (0 : Int) ≤ 0), (by decide : (0 : Int) ≤ 1100), (by decide : (0 : Int) ≤ 0), (by decide : (0 : Int) ≤ 0), (by decide : (0 : Int) ≤ 2000000), (by decide : (0 : Int) ≤ 2000000)⟩
  · show 0 ≤ (List.replicate 10 (0 : Int)).getD i 0 ∧ (List.replicate 10 (0 : Int)).getD i 0 ≤ 4
    rcases ten hi with rfl | rfl | rfl | rfl | rfl | rfl | rfl | rfl | rfl | rfl <;> decide
  · show 0 ≤ (List.replicate 10 (4 : Int)).getD i 0 ∧ (List.replicate 10 (4 : Int)).getD i 0 ≤ 99
    rcases ten hi with rfl | rfl | rfl | rfl | rfl | rfl | rfl | rfl | rfl | rfl <;> decide
theorem ok_bd1 {w : Int} (w2 : 2 ≤ w) (w5 : w ≤ 5) : BoOK (bd1 w) := by
  have hs : ∀ i : Nat, i < 10 → 0 ≤ (bd1 w).ss.getD i 0 ∧ (bd1 w).ss.getD i 0 ≤ 99 := by
    intro i hi
    rcases (show w = 2 ∨ w = 3 ∨ w = 4 ∨ w = 5 by omega) with rfl | rfl | rfl | rfl <;> rcases ten hi with rfl | rfl | rfl | rfl | rfl | rfl | rfl | rfl | rfl | rfl <;> decide
  refine ⟨w2, w5, rfl, ?_, fun i hi => ?_, hs, Or.inl rfl, (by decide : (0 : Int) ≤ 0), (by decide : (0 : Int) ≤ 1100), (by decide : (0 : Int) ≤ 0), (by decide : (0 : Int) ≤ 0), (by decide : (0 : Int) ≤ 2000000), (by decide : (0 : Int) ≤ 2000000)⟩
  · rcases (show w = 2 ∨ w = 3 ∨ w = 4 ∨ w = 5 by omega) with rfl | rfl | rfl | rfl <;> rfl
  · show 0 ≤ (List.replicate 10 (0 : Int)).getD i 0 ∧ (List.replicate 10 (0 : Int)).getD i 0 ≤ 4
    rcases ten hi with rfl | rfl | rfl | rfl | rfl | rfl | rfl | rfl | rfl | rfl <;> decide
theorem eq_bd {w : Int} (w2 : 2 ≤ w) (w5 : w ≤ 5) : EqB (bd0 w) (bd1 w) := by
  refine ⟨rfl, rfl, rfl, rfl, rfl, fun i h0 h1 => ⟨rfl, ?_⟩⟩
  have h1 : i < 2 * w := h1
  show (bd1 w).ss.getD i.toNat 0 = (bd0 w).ss.getD i.toNat 0
  obtain ⟨j, rfl⟩ : ∃ j : Nat, i = (j : Int) := ⟨i.toNat, by omega⟩
  rw [Int.toNat_natCast]
  have hj : j < 10 := by omega
  rcases (show w = 2 ∨ w = 3 ∨ w = 4 ∨ w = 5 by omega) with rfl | rfl | rfl | rfl <;> rcases ten hj with rfl | rfl | rfl | rfl | rfl | rfl | rfl | rfl | rfl | rfl <;> first | rfl | (exfalso; omega)
theorem pr_bd {w : Int} (w2 : 2 ≤ w) (w5 : w ≤ 5) : Pr (bd0 w) (bd1 w) :=
  ⟨⟨ok_bd0 w2 w5, (by decide : (0 : Int) ≤ 99 + 495 * 0), (by decide : (0 : Int) ≤ 99 + 495 * 0)⟩, ⟨ok_bd1 w2 w5, (by decide : (0 : Int) ≤ 99 + 495 * 0), (by decide : (0 : Int) ≤ 99 + 495 * 0)⟩, (by decide : (0 : Int) ≤ 999), eq_bd w2 w5⟩
theorem five {i : Nat} (h : i < 5) : i = 0 ∨ i = 1 ∨ i = 2 ∨ i = 3 ∨ i = 4 := by omega
theorem six {i : Nat} (h : i < 6) : i = 0 ∨ i = 1 ∨ i = 2 ∨ i = 3 ∨ i = 4 ∨ i = 5 := by omega
theorem eight {i : Nat} (h : i < 8) : i = 0 ∨ i = 1 ∨ i = 2 ∨ i = 3 ∨ i = 4 ∨ i = 5 ∨ i = 6 ∨ i = 7 := by omega
theorem repD {n i : Nat} {v : Int} (h : i < n) : (List.replicate n v).getD i 0 = v := by rw [gdE, List.getElem?_replicate, if_pos h]; rfl
theorem inv_first (scr : List Int) : Inv scr (hhA scr) := by
  have O3 : BoOK (bd0 3) := ok_bd0 (by omega) (by omega)
  have P3 : Pr (bd0 3) (bd1 3) := pr_bd (by omega) (by omega)
  refine ⟨rfl, rfl, rfl, 0, 0, 0, 0, bd0 3, bd1 3, rfl, ⟨0, 0, 0, 0, 0, 0, rfl⟩, ⟨⟨rfl, rfl, rfl, rfl⟩, rfl, P3⟩, ⟨bd0 3, bd1 3, bd0 3, ⟨rfl, rfl, rfl, rfl⟩, ⟨rfl, rfl, rfl, rfl⟩, rfl, P3, O3⟩, ?_, ?_, ?_, ?_, ?_, ?_, ?_⟩
  · refine ⟨by omega, by omega, fun i => 68 + 4 * i, fun _ => bd0 3, fun _ => bd1 3, List.replicate 200 0, rfl, rfl, rfl, fun i hi => by dsimp only; omega, fun i j _ _ e => by dsimp only at e; omega, fun i hi => ⟨bd0 3, ?_, O3⟩, fun i hi => by omega⟩
    rcases eight hi with rfl | rfl | rfl | rfl | rfl | rfl | rfl | rfl <;> exact ⟨rfl, rfl, rfl, rfl⟩
  · exact ⟨0, 0, bd0 3, bd0 3, bd1 3, bd1 3, List.replicate 50 0, rfl, rfl, ⟨rfl, rfl, rfl, rfl⟩, ⟨rfl, rfl, rfl, rfl⟩, O3, O3, rfl, rfl, Or.inl rfl, Or.inl rfl, rfl, fun z => by omega, fun z => by omega⟩
  · exact ⟨by omega, by omega, List.replicate 200 0, rfl, rfl, rfl, fun j hj => by rw [repD hj]; omega, 0, 0, 0, rfl⟩
  · refine ⟨⟨-1, rfl⟩, rfl, fun i hi => ⟨bd0 3, ?_, O3⟩⟩
    rcases six hi with rfl | rfl | rfl | rfl | rfl | rfl <;> exact ⟨rfl, rfl, rfl, rfl⟩
  · exact ⟨⟨_, rfl, rfl⟩, ⟨_, rfl, rfl⟩, ⟨_, rfl, rfl⟩, ⟨_, rfl, rfl⟩, ⟨_, rfl, rfl⟩, ⟨_, rfl, rfl⟩, ⟨_, rfl, rfl⟩, ⟨_, rfl, rfl⟩, ⟨_, rfl, rfl⟩, ⟨_, rfl, rfl⟩⟩
  · refine ⟨by omega, by omega, _, _, _, _, _, rfl, rfl, rfl, rfl, rfl, rfl, rfl, rfl, rfl, rfl, rfl, fun k hk => ?_⟩
    rcases six hk with rfl | rfl | rfl | rfl | rfl | rfl <;> decide
  · refine ⟨rfl, rfl, fun _ => 0, fun _ => 0, fun _ => 0, fun _ => -1, fun _ => List.replicate 4 0, fun _ => List.replicate 4 0, _, _, _, _, _, fun i hi => ?_, rfl, rfl, rfl, rfl, rfl, ?_, ?_⟩
    · rcases five hi with rfl | rfl | rfl | rfl | rfl <;> exact ⟨rfl, rfl, rfl⟩
    · exact ⟨fun i hi => ⟨Or.inl rfl, by dsimp only; omega, by dsimp only; omega, rfl, rfl, fun z => by dsimp only at z; omega, fun _ => rfl, Or.inl rfl⟩, fun i _ k hk => by dsimp only at hk; omega, fun j _ z => absurd rfl z, fun i _ k l hk => by dsimp only at hk; omega, fun _ => 0, fun j _ z => absurd rfl z⟩
    · refine ⟨rfl, rfl, rfl, rfl, rfl, fun i hi => ⟨?_, ?_, ?_, fun k hk => by dsimp only at hk; omega⟩⟩
      · rw [if_neg (by dsimp only; omega)]; rcases five hi with rfl | rfl | rfl | rfl | rfl <;> rfl
      · rcases five hi with rfl | rfl | rfl | rfl | rfl <;> rfl
      · rcases five hi with rfl | rfl | rfl | rfl | rfl <;> rfl
