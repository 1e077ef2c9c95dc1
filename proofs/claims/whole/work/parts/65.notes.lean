/-! The model's notes, and its other rows copied. -/
def shN : Nat → Nat → List Int → List Int
  | 0, _, R => R
  | k + 1, c, R => shN k (c + 1) (R.set (c - 25) (R.getD c 0))
theorem shN_len : ∀ (k c : Nat) (R : List Int), (shN k c R).length = R.length := by
  intro k
  induction k with
  | zero => intro c R; rfl
  | succ k ih => intro c R; show (shN k _ _).length = _; rw [ih, List.length_set]
theorem shN_lo : ∀ (k c : Nat) (R : List Int) (j : Nat), 25 ≤ c → j < c - 25 → (shN k c R)[j]? = R[j]? := by
  intro k
  induction k with
  | zero => intro c R j _ _; rfl
  | succ k ih =>
    intro c R j h0 h1
    show (shN k _ _)[j]? = _
    rw [ih _ _ _ (by omega) (by omega), List.getElem?_set_ne (by omega)]
theorem shN_hi : ∀ (k c : Nat) (R : List Int) (j : Nat), 25 ≤ c → c + k = R.length → c - 25 ≤ j → j + 25 < R.length → (shN k c R)[j]? = R[j + 25]? := by
  intro k
  induction k with
  | zero => intro c R j h0 h1 h2 h3; omega
  | succ k ih =>
    intro c R j h0 h1 h2 h3
    show (shN k _ _)[j]? = _
    by_cases e : j = c - 25
    · rw [shN_lo _ _ _ _ (by omega) (by omega), e, List.getElem?_set_self (by omega), show c - 25 + 25 = c by omega]
      exact (getD_some (by omega)).symm
    · rw [ih _ _ _ (by omega) (by rw [List.length_set]; omega) (by omega) (by rw [List.length_set]; omega), List.getElem?_set_ne (by omega)]
section NT
variable {h : AH} {d : Nat} {le pl be to va br un ke la ma : Int} {C B : Bo} {P CC : Nat → Bo}
theorem hmr {xs : List Int} {k : Nat} {v : Int} (hm : h[108]? = some (7, xs)) (e : xs[k]? = some v) (z : 0 ≤ v) : rdr 7 h 108 k = some v := rdr_n (n := 108) hm e z
theorem hmf {xs : List Int} {k : Nat} {v : Int} (hm : h[108]? = some (7, xs)) (e : xs[k]? = some v) : rdf 7 h 108 k = some v := (rdf_n (n := 108) hm k).trans e
theorem hmw {xs : List Int} {k : Nat} (hm : h[108]? = some (7, xs)) (e : k < xs.length) (v : Int) : wrf 7 h 108 k v = some (h.set 108 (7, xs.set k v)) := wrf_n (n := 108) hm e v
theorem rdA {n : Nat} {xs : List Int} {i : Int} (e : h[n]? = some (20, xs)) (h0 : 0 ≤ i) (h1 : i.toNat < xs.length) : rda 20 h (n : Int) i = some (xs.getD i.toNat 0) := by rw [rda_i e h0]; exact getD_some h1
theorem m_notes12 (hm : h[108]? = some (7, hM le pl be to va br un ke la ma)) (hl : 113 < h.length) : ∀ (k : Nat) (c : Nat) (R : List Int), R.length = 200 → 25 ≤ c → c + k = 200 → run (d + 1) m_Mo_notes 12 [(107, 108), (0, (c : Int))] [] (h.set 113 (20, R)) = run (d + 1) m_Mo_notes 12 [(107, 108), (0, 200)] [] (h.set 113 (20, shN k c R)) := by
  intro k
  induction k with
  | zero => intro c R _ _ e; rw [show c = 200 by omega]; rfl
  | succ k ih =>
    intro c R hR h0 e
    have r1 : rdr 7 (h.set 113 (20, R)) 108 10 = some 113 := hmr (by rw [getN (by omega)]; exact hm) rfl (by omega)
    have r2 : rda 20 (h.set 113 (20, R)) 113 (c : Int) = some (R.getD c 0) := by
      have := rdA (n := 113) (xs := R) (i := (c : Int)) (getS (h := h) (c := (20, R)) hl) (by omega) (by omega)
      rw [Int.toNat_natCast] at this
      exact this
    have r3 : wra 20 (h.set 113 (20, R)) 113 ((c : Int) - 25) (R.getD c 0) = some ((h.set 113 (20, R)).set 113 (20, R.set ((c : Int) - 25).toNat (R.getD c 0))) := wra_i (n := 113) (getS hl) (by omega) (by omega) _
    rw [k_Mo_notes_12, if_pos (by omega), r1, Option.bind_some, Option.bind_some, r2, Option.bind_some, sub_id (by omega) (by omega), r3, Option.bind_some, List.set_set, add_id (by omega) (by omega), show ((c : Int) - 25).toNat = c - 25 by omega]
    exact ih (c + 1) _ (by rw [List.length_set]; exact hR) (by omega) (by omega)
theorem m_notes48 (hm : h[108]? = some (7, hM le pl be to va br un ke la ma)) (e9 : h[109]? = some (20, row C)) (OC : BoOK C) (u0 : 0 ≤ un) (u1 : un < 8) (hl : 113 < h.length) : ∀ (k : Nat) (c : Nat) (R : List Int), R.length = 200 → c + k = 25 → run (d + 1) m_Mo_notes 48 [(107, 108), (0, (c : Int))] [] (h.set 113 (20, R)) = run (d + 1) m_Mo_notes 48 [(107, 108), (0, 25)] [] (h.set 113 (20, cpN (row C) 0 (25 * un.toNat) k c R)) := by
  intro k
  induction k with
  | zero => intro c R _ e; rw [show c = 25 by omega]; rfl
  | succ k ih =>
    intro c R hR e
    have hm' : (h.set 113 (20, R))[108]? = some (7, hM le pl be to va br un ke la ma) := by rw [getN (by omega)]; exact hm
    have r1 : rdr 7 (h.set 113 (20, R)) 108 10 = some 113 := hmr hm' rfl (by omega)
    have r2 : rdf 7 (h.set 113 (20, R)) 108 11 = some un := hmf hm' rfl
    have r3 : rdr 7 (h.set 113 (20, R)) 108 0 = some 109 := hmr hm' rfl (by omega)
    have r4 : rda 20 (h.set 113 (20, R)) 109 (c : Int) = some ((row C).getD c 0) := by
      have := rdA (n := 109) (h := h.set 113 (20, R)) (xs := row C) (i := (c : Int)) (by rw [getN (by omega)]; exact e9) (by omega) (by rw [row_len OC]; omega)
      rw [Int.toNat_natCast] at this
      exact this
    have r5 : wra 20 (h.set 113 (20, R)) 113 (25 * un + (c : Int)) ((row C).getD c 0) = some ((h.set 113 (20, R)).set 113 (20, R.set (25 * un + (c : Int)).toNat ((row C).getD c 0))) := wra_i (n := 113) (getS hl) (by omega) (by omega) _
    rw [k_Mo_notes_48, if_pos (by omega), r1, Option.bind_some, r2, Option.bind_some, r3, Option.bind_some, r4, Option.bind_some, mul_id (by omega) (by omega), add_id (x := 25 * un) (by omega) (by omega), r5, Option.bind_some, List.set_set, add_id (by omega) (by omega), show (25 * un + (c : Int)).toNat = 25 * un.toNat + c by omega]
    show _ = run (d + 1) m_Mo_notes 48 [(107, 108), (0, 25)] [] (h.set 113 (20, cpN (row C) 0 (25 * un.toNat) k (c + 1) (R.set (25 * un.toNat + c) ((row C).getD (0 + c) 0))))
    rw [Nat.zero_add]
    exact ih (c + 1) _ (by rw [List.length_set]; exact hR) (by omega)
theorem m_notesLow (hm : h[108]? = some (7, hM le pl be to va br un ke la ma)) (e9 : h[109]? = some (20, row C)) (OC : BoOK C) (u0 : 0 ≤ un) (u1 : un < 8) (M : PaM h un P CC) (p : Pr B C) : ∃ h' : AH, run (d + 1) m_Mo_notes 48 [(107, 108), (0, 0)] [] h = some (0, h') ∧ h'[108]? = some (7, hM le pl be to va br (un + 1) ke la ma) ∧ Fr (fun j => j = 108 ∨ j = 113) h h' ∧ PaM h' (un + 1) (fun i => if (i : Int) = un then B else P i) (fun i => if (i : Int) = un then C else CC i) := by
  obtain ⟨R, a, b, c⟩ := M
  have hl := gtl a
  have z := m_notes48 (d := d) hm e9 OC u0 u1 hl 25 0 R b (by omega)
  rw [set_same a] at z
  have hm2 : (h.set 113 (20, cpN (row C) 0 (25 * un.toNat) 25 0 R))[108]? = some (7, hM le pl be to va br un ke la ma) := by rw [getN (by omega)]; exact hm
  have r2 : rdf 7 (h.set 113 (20, cpN (row C) 0 (25 * un.toNat) 25 0 R)) 108 11 = some un := hmf hm2 rfl
  refine ⟨(h.set 113 (20, cpN (row C) 0 (25 * un.toNat) 25 0 R)).set 108 (7, hM le pl be to va br (un + 1) ke la ma), ?_, getS (by rw [List.length_set]; omega), (fr_set (Or.inr rfl)).tr (fr_set (Or.inl rfl)), cpN (row C) 0 (25 * un.toNat) 25 0 R, ?_, by rw [cpN_len]; exact b, fun i hi => ?_⟩
  · refine z.trans ?_
    rw [k_Mo_notes_48, if_neg (by omega), r2, Option.bind_some, add_id (by omega) (by omega), hmw hm2 (by simp [hM]) (un + 1), Option.bind_some]
    rfl
  · rw [getN (by omega), getS hl]
  · show Pr (if (i : Int) = un then B else P i) (if (i : Int) = un then C else CC i) ∧ At _ _ (row (if (i : Int) = un then C else CC i))
    by_cases e : (i : Int) = un
    · rw [if_pos e, if_pos e, show i = un.toNat by omega]
      exact ⟨p, At.sf.cp (row_len OC) (by omega)⟩
    · rw [if_neg e, if_neg e]
      exact ⟨(c i (by omega)).1, (c i (by omega)).2.ot (by omega)⟩
theorem m_notes (hm : h[108]? = some (7, hM le pl be to va br un ke la ma)) (e9 : h[109]? = some (20, row C)) (OC : BoOK C) (u0 : 0 ≤ un) (u1 : un ≤ 8) (M : PaM h un P CC) (p : Pr B C) : ∃ (h' : AH) (C' : Nat → Bo), cal (d + 1) m_Mo_notes [(107, 108)] h = some (0, h') ∧ h'[108]? = some (7, hM le pl be to va br (if un < 8 then un + 1 else 8) ke la ma) ∧ Fr (fun j => j = 108 ∨ j = 113) h h' ∧ PaM h' (if un < 8 then un + 1 else 8) (if un < 8 then (fun i : Nat => if (i : Int) = un then B else P i) else (fun i : Nat => if (i : Int) = 7 then B else P (i + 1))) C' := by
  have r2 : rdf 7 h 108 11 = some un := hmf hm rfl
  rw [k_Mo_notes, r2, Option.bind_some]
  by_cases c : un < 8
  · obtain ⟨h', e1, e2, e3, e4⟩ := m_notesLow (d := d) hm e9 OC u0 c M p
    refine ⟨h', (fun i : Nat => if (i : Int) = un then C else CC i), ?_, ?_, e3, ?_⟩
    · rw [if_neg (by omega)]; exact e1
    · rw [if_pos c]; exact e2
    · rw [if_pos c, if_pos c]; exact e4
  · have e8 : un = 8 := by omega
    subst e8
    obtain ⟨R, a, b, q⟩ := M
    have hl := gtl a
    have z := m_notes12 (d := d) hm hl 175 25 R b (by omega) (by omega)
    rw [set_same a] at z
    have hm2 : (h.set 113 (20, shN 175 25 R))[108]? = some (7, hM le pl be to va br 8 ke la ma) := by rw [getN (by omega)]; exact hm
    have hm3 : ((h.set 113 (20, shN 175 25 R)).set 108 (7, hM le pl be to va br 7 ke la ma))[108]? = some (7, hM le pl be to va br 7 ke la ma) := getS (by rw [List.length_set]; omega)
    have M2 : PaM ((h.set 113 (20, shN 175 25 R)).set 108 (7, hM le pl be to va br 7 ke la ma)) 7 (fun i => P (i + 1)) (fun i => CC (i + 1)) := by
      refine ⟨shN 175 25 R, by rw [getN (by omega), getS hl], by rw [shN_len]; exact b, fun i hi => ⟨(q (i + 1) (by omega)).1, fun k hk => ?_⟩⟩
      have := (q (i + 1) (by omega)).2 k hk
      rw [shN_hi 175 25 R _ (by omega) (by omega) (by omega) (by omega), show 25 * i + k + 25 = 25 * (i + 1) + k by omega]
      exact this
    obtain ⟨h', e1, e2, e3, e4⟩ := m_notesLow (d := d) hm3 (by rw [getN (by omega), getN (by omega)]; exact e9) OC (by omega) (by omega) M2 p
    refine ⟨h', (fun i : Nat => if (i : Int) = 7 then C else CC (i + 1)), ?_, ?_, ((fr_set (Or.inr rfl)).tr (fr_set (Or.inl rfl))).tr e3, ?_⟩
    · rw [if_pos rfl]
      refine z.trans ?_
      rw [k_Mo_notes_12, if_neg (by omega), hmw hm2 (by simp [hM]) 7, Option.bind_some]
      exact e1
    · rw [if_neg c]; exact e2
    · rw [if_neg c, if_neg c]; exact e4
end NT
