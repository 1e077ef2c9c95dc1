/-! board, on both sides. -/
def AL2 (j : Nat) : Prop := AC j ∨ MB j ∨ RB j ∨ j = 123 ∨ j = 124 ∨ j = 127
section OPS
variable {scr : List Int}
theorem op_board : Op scr m_Ss_board m_Mo_board [] := by
  intro h I
  obtain ⟨hl, hs, ho', le, un, ke, ma, B, C, iS, ⟨pl, be, to, va, br, la, hm⟩, iN, iT, iP, iK, iX, iF, iW, iI, iB⟩ := id I
  obtain ⟨w1, w2, w3, w4, w5, w6, w7, w8, w9, w10⟩ := id iW
  obtain ⟨Z, ro, ho, wh, tg, li, X, M, m, R⟩ := iB.sp hm
  have l0 := iX.1
  have l1 := iX.2.1
  have u0 := iP.1
  obtain ⟨L, T, T', g, g2, cl, st, en, x, c1, c2, S, F1, F, ec, m1, MM, HT, e0, P, x1, x2, x3, x4⟩ := both_read (B := B) (C := C) hl iS hm iT iX w1
  have NC : ∀ j, ¬ ((7 ≤ j ∧ j < 11) ∨ j = 18) → ¬ CB j := fun j z => z
  have NM : ∀ j, ¬ (j = 108 ∨ j = 112) → ¬ MB j := fun j z => z
  have iSg := iS.fr F (NC _ (by omega))
  have iS1 := iS.fr F1 (NC _ (by omega))
  by_cases z : (rdF L le 24 0 0 T).1 = -1
  rotate_left
  · -- a fault
    obtain ⟨xp, F2, OK, NO⟩ := MM
    obtain ⟨b, ys, q, e⟩ := NO z
    have FF : Fr TB2 h g2 := (F.wd (fun j z => Or.inl z)).tr (F2.wd (fun j z => Or.inr z))
    have N : ∀ j, ¬ ((7 ≤ j ∧ j < 11) ∨ j = 18 ∨ j = 108 ∨ j = 112) → ¬ TB2 j := fun j z => by unfold TB2 CB MB; omega
    refine ⟨-4, g, g2, ?_, by rw [F.g _ (NC _ (by omega))]; exact hs, ?_, ?_⟩
    · rw [k_Ss_board]
      simp only [iS.r1, iS.r0, c1, iS1.r6, iS1.r1, c2, Option.bind_some]
      rw [if_neg z]
    · rw [k_Mo_board, m1, Option.bind_some]
      show (rdf 7 g2 108 8).bind _ = _
      rw [q.r8, Option.bind_some, if_neg (by omega)]
    · obtain ⟨_, _, _, _, q⟩ := q
      have S18 : g2[18]? = some (5, [19, le, cl, st, en]) := by rw [F2.g _ (NM _ (by omega))]; exact S.1
      exact ⟨FF.len.trans hl, by rw [FF.g _ (N _ (by omega))]; exact hs, by rw [FF.g _ (N _ (by omega))]; exact ho', le, un, ke, ma, B, C, iS.fr FF (N _ (by omega)), ⟨_, _, _, _, _, _, q.1⟩, iN.fr FF (fun j a b => N _ (by omega)) (N _ (by omega)), ⟨T, T', _, HT.fr FF (fun j a b => N _ (by omega)), S.2.2.1.fr F2 (fun j a b => NM _ (by omega)), by rw [FF.g _ (N _ (by omega))]; exact e0, P, S.2.2.2⟩, iP.fr FF (N _ (by omega)) (N _ (by omega)) (fun j a b => N _ (by omega)), iK.fr FF (N _ (by omega)) (N _ (by omega)) (N _ (by omega)) (fun j a b => N _ (by omega)), ⟨l0, l1, L, by rw [FF.g _ (N _ (by omega))]; exact x1, by rw [FF.g _ (N _ (by omega))]; exact x2, x3, x4, cl, st, en, S18⟩, iF.fr FF (fun j a b => N _ (by omega)), ⟨⟨_, q.2.2.1, q.2.2.2⟩, w2.fr FF (N _ (by omega)), w3.fr FF (N _ (by omega)), w4.fr FF (N _ (by omega)), w5.fr FF (N _ (by omega)), w6.fr FF (N _ (by omega)), w7.fr FF (N _ (by omega)), w8.fr FF (N _ (by omega)), w9.fr FF (N _ (by omega)), w10.fr FF (N _ (by omega))⟩, iI.fr FF (fun j a b => N _ (by omega)) (N _ (by omega)), iB.fr FF (fun j a b => N _ (by omega)) (fun j a b => N _ (by omega))⟩
  -- a board told
  clear m1 MM
  have ecl := ec z
  obtain ⟨HN, e9, PN⟩ := id iN
  obtain ⟨g8, Y, d1, FA, sS, B3, B7, B11, kK, sI, e18, XY, mY, all⟩ := c_told (h := h) (C := C) (F.len.trans hl) iSg S (HT.fr F (fun j a b => NC _ (by omega))) P.1.1 (HN.fr F (fun j a b => NC _ (by omega))) PN.1.1 (iK.fr F (NC _ (by omega)) (NC _ (by omega)) (NC _ (by omega)) (fun j a b => NC _ (by omega))) (iI.fr F (fun j a b => NC _ (by omega)) (NC _ (by omega))) (X.fr F (fun j a b => NC _ (by omega))) m
  have A8 : Fr AC h g8 := (F.wd (fun j z => by unfold CB at z; unfold AC; omega)).tr FA
  have NA : ∀ j, ¬ ((2 ≤ j ∧ j < 15) ∨ j = 17 ∨ j = 18 ∨ j = 46 ∨ (53 ≤ j ∧ j < 68)) → ¬ AC j := fun j z => z
  obtain ⟨ys, ey, ly⟩ := w1
  have MS0 : MS g8 L le un ke la ma pl be to va br ys := ⟨by rw [A8.g _ (NA _ (by omega))]; exact hm, ⟨by rw [A8.len]; omega, by rw [A8.g _ (NA _ (by omega))]; exact x2, x3, l0, l1, x4⟩, by rw [A8.g _ (NA _ (by omega))]; exact ey, ly⟩
  obtain ⟨x', g3, m1, xp, F2, OK, NO⟩ := m_clauses (d := 51) MS0 (by rw [A8.g _ (NA _ (by omega))]; exact e0) P
  obtain ⟨ex, p', R', ⟨v0, q⟩, PR⟩ := OK z
  have D3 : ∀ j, ¬ AC j → ¬ MB j → g3[j]? = h[j]? := fun j a b => by rw [F2.g _ b, A8.g _ a]
  have lr : (row R').length = 25 := row_len PR.2.1.1
  obtain ⟨g4, k1, k2, k3, F4⟩ := m_bd17 (d := 58) (x := x') lr 25 0 g3 (row T') (row C) (by omega) q.1 q.2.2.1 (by rw [D3 _ (NA _ (by omega)) (NM _ (by omega))]; exact e0) (by rw [D3 _ (NA _ (by omega)) (NM _ (by omega))]; exact e9) (row_len P.2.1.1) (row_len PN.2.1.1)
  rw [cp_row At.sf lr (row_len P.2.1.1)] at k2
  rw [cp_row At.sf lr (row_len PN.2.1.1)] at k3
  have NR : ∀ j, ¬ (j = 109 ∨ j = 110) → ¬ RB j := fun j z => z
  have D4 : ∀ j, ¬ AC j → ¬ MB j → ¬ RB j → g4[j]? = h[j]? := fun j a b c => by rw [F4.g _ c, D3 _ a b]
  obtain ⟨z1, z2, z3, z4, z5, z6, z7, z8, z9, z10⟩ := M.c
  have hm4 : g4[108]? = some (7, hM le ((tE L le p' : Nat) : Int) ((sk L le p' : Nat) : Int) (tkT L le (sk L le p')) (tkV L le (sk L le p') v0) (-1) un ke la ma) := by rw [F4.g _ (NR _ (by omega))]; exact q.1
  have k4 := m_bd25 (d := 57) (x := x') hm4 (by rw [D4 _ (NA _ (by omega)) (NM _ (by omega)) (NR _ (by omega))]; exact z1) (by rw [D4 _ (NA _ (by omega)) (NM _ (by omega)) (NR _ (by omega))]; exact z2) (by rw [D4 _ (NA _ (by omega)) (NM _ (by omega)) (NR _ (by omega))]; exact z5) z6 z7 z10
  have len4 : g4.length = 130 := by rw [F4.len, F2.len, A8.len]; exact hl
  have nb := fun j => nb_get (h := g4.set 108 (7, hM 0 ((tE L le p' : Nat) : Int) ((sk L le p' : Nat) : Int) (tkT L le (sk L le p')) (tkV L le (sk L le p') v0) (-1) 0 0 la 0)) (r := List.replicate 5 (-1)) (ho := List.replicate 5 0) (li := List.replicate 5 (-1)) (by rw [List.length_set]; omega) j
  have ln5 : (nbH (g4.set 108 (7, hM 0 ((tE L le p' : Nat) : Int) ((sk L le p' : Nat) : Int) (tkT L le (sk L le p')) (tkV L le (sk L le p') v0) (-1) 0 0 la 0)) (List.replicate 5 (-1)) (List.replicate 5 0) (List.replicate 5 (-1))).length = 130 := by unfold nbH; rw [List.length_set, List.length_set, List.length_set, List.length_set]; exact len4
  have n108 := nb 108
  rw [if_neg (by decide), if_neg (by decide), if_neg (by decide), getS (gtl hm4)] at n108
  have n123 := nb 123
  rw [if_neg (by decide), if_neg (by decide), if_pos rfl] at n123
  have n124 := nb 124
  rw [if_neg (by decide), if_pos rfl] at n124
  have n127 := nb 127
  rw [if_pos rfl] at n127
  have F5 : Fr (fun j => j = 108 ∨ j = 123 ∨ j = 124 ∨ j = 127) g4 (nbH (g4.set 108 (7, hM 0 ((tE L le p' : Nat) : Int) ((sk L le p' : Nat) : Int) (tkT L le (sk L le p')) (tkV L le (sk L le p') v0) (-1) 0 0 la 0)) (List.replicate 5 (-1)) (List.replicate 5 0) (List.replicate 5 (-1))) := ⟨ln5.trans len4.symm, fun j hj => by rw [nb j, if_neg (by omega), if_neg (by omega), if_neg (by omega), getN (by omega)]⟩
  generalize nbH (g4.set 108 (7, hM 0 ((tE L le p' : Nat) : Int) ((sk L le p' : Nat) : Int) (tkT L le (sk L le p')) (tkV L le (sk L le p') v0) (-1) 0 0 la 0)) (List.replicate 5 (-1)) (List.replicate 5 0) (List.replicate 5 (-1)) = hf at *
  clear nb
  -- from the class's end on
  have V : Fr (fun j => j = 108 ∨ j = 109 ∨ j = 110 ∨ j = 112 ∨ j = 123 ∨ j = 124 ∨ j = 127) g8 hf := ((F2.wd (fun j z => by unfold MB at z; omega)).tr (F4.wd (fun j z => by unfold RB at z; omega))).tr (F5.wd (fun j z => by omega))
  have W : Fr (fun j => ((2 ≤ j ∧ j < 15) ∨ j = 17 ∨ j = 18 ∨ j = 46 ∨ (53 ≤ j ∧ j < 68)) ∨ j = 108 ∨ j = 109 ∨ j = 110 ∨ j = 112 ∨ j = 123 ∨ j = 124 ∨ j = 127) h hf := (A8.wd (fun j z => Or.inl z)).tr (V.wd (fun j z => Or.inr z))
  have f112 : hf[112]? = some (20, row R') := by rw [F5.g _ (by omega), F4.g _ (NR _ (by omega))]; exact q.2.2.1
  have f110 : hf[110]? = some (20, row R') := by rw [F5.g _ (by omega)]; exact k2
  have f109 : hf[109]? = some (20, row R') := by rw [F5.g _ (by omega)]; exact k3
  have RY : ZR Y (List.replicate 5 (-1)) (List.replicate 5 0) wh tg (List.replicate 5 (-1)) := by
    intro i hi
    have a := all i hi
    have s0 := (mY.1 i hi).2.2.2.2.2.2.1 a.1
    rw [a.1, a.2, s0, if_neg (by decide)]
    refine ⟨?_, ?_, ?_, fun k hk => by omega⟩ <;> rcases five hi with rfl | rfl | rfl | rfl | rfl <;> rfl
  refine ⟨cl, g8, hf, ?_, by rw [A8.g _ (NA _ (by omega))]; exact hs, ?_, ?_⟩
  · rw [k_Ss_board]
    simp only [iS.r1, iS.r0, c1, iS1.r6, iS1.r1, c2, Option.bind_some]
    rw [if_pos z, iSg.r0, Option.bind_some, iSg.r1, Option.bind_some]
    exact d1
  · rw [k_Mo_board, m1, Option.bind_some]
    show (rdf 7 g3 108 8).bind _ = _
    rw [show rdf 7 g3 108 8 = some (-1) from hmf q.1 rfl, Option.bind_some, if_pos (by decide)]
    refine Eq.trans k1 ?_
    rw [ecl, ← ex]
    exact k4
  · exact ⟨W.len.trans hl, by rw [W.g _ (by omega)]; exact hs, by rw [W.g _ (by omega)]; exact ho', 0, 0, 0, 0, _, R', sS.fr V (by omega), ⟨_, _, _, _, _, _, n108⟩, ⟨B11.fr V (fun j a b => by omega), f109, PR⟩, ⟨_, R', _, B3.fr V (fun j a b => by omega), B7.fr V (fun j a b => by omega), f110, PR, PR.1.1⟩, (iP.dn (by omega) u0).fr W (by omega) (by omega) (fun j a b => by omega), kK.fr V (by omega) (by omega) (by omega) (fun j a b => by omega), ⟨by omega, by omega, L, by rw [W.g _ (by omega)]; exact x1, by rw [W.g _ (by omega)]; exact x2, x3, x4, cl, st, en, by rw [V.g _ (by omega)]; exact e18⟩, iF.fr W (fun j a b => by omega), ⟨⟨_, f112, lr⟩, w2.fr W (by omega), w3.fr W (by omega), w4.fr W (by omega), w5.fr W (by omega), w6.fr W (by omega), w7.fr W (by omega), w8.fr W (by omega), w9.fr W (by omega), w10.fr W (by omega)⟩, sI.fr V (fun j a b => by omega) (by omega), BxI.jn (XY.fr V (fun j a b => by omega)) ⟨n108, rfl, rfl, rfl, rfl, rfl, n123, n124, by rw [W.g _ (by omega)]; exact z3, by rw [W.g _ (by omega)]; exact z4, n127, rfl, rfl, z8, z9, rfl⟩ mY RY⟩
end OPS
