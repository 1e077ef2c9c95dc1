/-! fault. -/
section OPS
variable {scr : List Int}
/-- the text read on both sides -/
theorem both_read {h : AH} {le un ke ma pl be to va br la : Int} {B C : Bo} (hl : h.length = 130) (iS : SsI h un) (hm : h[108]? = some (7, hM le pl be to va br un ke la ma)) (iT : ToI h) (iX : TeI h le) (w1 : LnI h 112 20 25) : ∃ (L : List Int) (T T' : Bo) (g g2 : AH) (cl st en x : Int), cal 58 m_Bd_copy [(100, 7), (100, 3)] h = some (0, setB h 7 T) ∧ cal 58 m_Te_read [(105, 18), (100, 7)] (setB h 7 T) = some ((rdF L le 24 0 0 T).1, g) ∧ CS g L le cl st en (rdF L le 24 0 0 T).2.2 ∧ Fr CB h (setB h 7 T) ∧ Fr CB h g ∧ ((rdF L le 24 0 0 T).1 = -1 → cl = 24 - ((rdF L le 24 0 0 T).2.1 : Int)) ∧ cal 58 m_Mo_clauses [(107, 108)] g = some (x, g2) ∧ CRs g g2 L le un ke la ma x (rdF L le 24 0 0 T) ∧ BdH h 3 T ∧ h[110]? = some (20, row T') ∧ Pr T T' ∧ h[19]? = some (22, L) ∧ h[111]? = some (20, L) ∧ L.length = 200 ∧ (∀ j : Nat, j < 200 → 0 ≤ L.getD j 0 ∧ L.getD j 0 ≤ 255) := by
  obtain ⟨T, T', D, HT, HD, e0, P, OD⟩ := iT
  obtain ⟨l0, l1, L, x1, x2, x3, x4, cl, st, en, x5⟩ := iX
  have cc : cal 58 m_Bd_copy [(100, 7), (100, 3)] h = some (0, setB h 7 T) := c_copy (n := 7) (n' := 3) HD HT OD P.1.1 (Or.inr (by omega))
  have S0 : CS h L le cl st en D := ⟨x5, ⟨by omega, x1, x3, l0, l1, x4⟩, HD, OD⟩
  obtain ⟨S1, F1⟩ := S0.bd P.1.1
  obtain ⟨g, cl', st', en', r1, S2, F2, r2⟩ := c_read (d := 52) S1
  have F := F1.tr F2
  have G : ∀ j, ¬ CB j → g[j]? = h[j]? := fun j hj => F.g j hj
  obtain ⟨ys, ey, ly⟩ := w1
  have MS0 : MS g L le un ke la ma pl be to va br ys := ⟨by rw [G _ (by unfold CB; omega)]; exact hm, ⟨by rw [F.len]; omega, by rw [G _ (by unfold CB; omega)]; exact x2, x3, l0, l1, x4⟩, by rw [G _ (by unfold CB; omega)]; exact ey, ly⟩
  obtain ⟨x, g2, m1, m2⟩ := m_clauses (d := 51) MS0 (by rw [G _ (by unfold CB; omega)]; exact e0) P
  exact ⟨L, T, T', g, g2, cl', st', en', x, cc, r1, S2, F1, F, r2, m1, m2, HT, e0, P, x1, x2, x3, x4⟩
def TB2 (j : Nat) : Prop := CB j ∨ MB j
theorem op_fault : Op scr m_Ss_fault m_Mo_fault [] := by
  intro h I
  obtain ⟨hl, hs, ho, le, un, ke, ma, B, C, iS, ⟨pl, be, to, va, br, la, hm⟩, iN, iT, iP, iK, iX, iF, iW, iI, iB⟩ := id I
  obtain ⟨w1, w2, w3, w4, w5, w6, w7, w8, w9, w10⟩ := id iW
  have l0 := iX.1
  have l1 := iX.2.1
  obtain ⟨L, T, T', g, g2, cl, st, en, x, c1, c2, S, F1, F, ec, m1, M, HT, e0, P, x1, x2, x3, x4⟩ := both_read (B := B) (C := C) hl iS hm iT iX w1
  obtain ⟨xp, F2, OK, NO⟩ := M
  have FF : Fr TB2 h g2 := (F.wd (fun j z => Or.inl z)).tr (F2.wd (fun j z => Or.inr z))
  have N : ∀ j, ¬ ((7 ≤ j ∧ j < 11) ∨ j = 18 ∨ j = 108 ∨ j = 112) → ¬ TB2 j := fun j z => by unfold TB2 CB MB; omega
  have NC : ∀ j, ¬ ((7 ≤ j ∧ j < 11) ∨ j = 18) → ¬ CB j := fun j z => z
  have NM : ∀ j, ¬ (j = 108 ∨ j = 112) → ¬ MB j := fun j z => z
  have HMW : (∃ pl be to va br la : Int, g2[108]? = some (7, hM le pl be to va br un ke la ma)) ∧ LnI g2 112 20 25 := by
    by_cases z : (rdF L le 24 0 0 T).1 = -1
    · obtain ⟨-, p', R', ⟨v0, q⟩, -⟩ := OK z
      exact ⟨⟨_, _, _, _, _, _, q.1⟩, _, q.2.2.1, q.2.2.2⟩
    · obtain ⟨b, ys, ⟨_, _, _, _, q⟩, -⟩ := NO z
      exact ⟨⟨_, _, _, _, _, _, q.1⟩, _, q.2.2.1, q.2.2.2⟩
  refine ⟨(rdF L le 24 0 0 T).1, g, g2, ?_, by rw [F.g _ (NC _ (by omega))]; exact hs, ?_, ?_⟩
  · rw [k_Ss_fault]
    have iS1 := iS.fr F1 (NC _ (by omega))
    simp only [iS.r1, iS.r0, c1, iS1.r6, iS1.r1, c2, Option.bind_some]
  · rw [k_Mo_fault, m1, Option.bind_some]
    show (if 0 < x then (rdf 7 g2 108 8).bind _ else _) = _
    rw [if_pos xp]
    by_cases z : (rdF L le 24 0 0 T).1 = -1
    · obtain ⟨-, p', R', q, -⟩ := OK z
      rw [q.r8, Option.bind_some, if_pos (by decide), z]
    · obtain ⟨b, ys, q, e⟩ := NO z
      rw [q.r8, Option.bind_some, if_neg (by omega), e]
      rfl
  · have S18 : g2[18]? = some (5, [19, le, cl, st, en]) := by rw [F2.g _ (NM _ (by omega))]; exact S.1
    exact ⟨FF.len.trans hl, by rw [FF.g _ (N _ (by omega))]; exact hs, by rw [FF.g _ (N _ (by omega))]; exact ho, le, un, ke, ma, B, C, iS.fr FF (N _ (by omega)), HMW.1, iN.fr FF (fun j a b => N _ (by omega)) (N _ (by omega)), ⟨T, T', _, HT.fr FF (fun j a b => N _ (by omega)), S.2.2.1.fr F2 (fun j a b => NM _ (by omega)), by rw [FF.g _ (N _ (by omega))]; exact e0, P, S.2.2.2⟩, iP.fr FF (N _ (by omega)) (N _ (by omega)) (fun j a b => N _ (by omega)), iK.fr FF (N _ (by omega)) (N _ (by omega)) (N _ (by omega)) (fun j a b => N _ (by omega)), ⟨l0, l1, L, by rw [FF.g _ (N _ (by omega))]; exact x1, by rw [FF.g _ (N _ (by omega))]; exact x2, x3, x4, cl, st, en, S18⟩, iF.fr FF (fun j a b => N _ (by omega)), ⟨HMW.2, w2.fr FF (N _ (by omega)), w3.fr FF (N _ (by omega)), w4.fr FF (N _ (by omega)), w5.fr FF (N _ (by omega)), w6.fr FF (N _ (by omega)), w7.fr FF (N _ (by omega)), w8.fr FF (N _ (by omega)), w9.fr FF (N _ (by omega)), w10.fr FF (N _ (by omega))⟩, iI.fr FF (fun j a b => N _ (by omega)) (N _ (by omega)), iB.fr FF (fun j a b => N _ (by omega)) (fun j a b => N _ (by omega))⟩
end OPS
