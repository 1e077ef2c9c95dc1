/-! Calls that change the board. -/
section FRS
variable {Q : Nat → Prop} {h h' : AH} {un : Int} {ps : Nat → Nat} {P C : Nat → Bo}
theorem PaC.fr (A : PaC h un ps P) (F : Fr Q h h') (q : ¬ Q 15) (q3 : ∀ j, 68 ≤ j → j < 100 → ¬ Q j) (u8 : un ≤ 8) : PaC h' un ps P := by
  obtain ⟨a, x, y, z, w⟩ := A
  refine ⟨by rw [F.g 15 q]; exact a, x, y, fun k hk => ?_, fun i hi => (w i hi).fr F (fun j a b => q3 j ?_ ?_)⟩
  · obtain ⟨D, e, o⟩ := z k hk
    exact ⟨D, e.fr F (fun j a b => q3 j (by omega) (by omega)), o⟩
  · have := x i (by omega); omega
  · have := x i (by omega); omega
theorem PaM.fr (A : PaM h un P C) (F : Fr Q h h') (q : ¬ Q 113) : PaM h' un P C := by
  obtain ⟨R, a, b⟩ := A
  exact ⟨R, by rw [F.g 113 q]; exact a, b⟩
end FRS
def TB (j : Nat) : Prop := j = 2 ∨ (11 ≤ j ∧ j < 16) ∨ (68 ≤ j ∧ j < 100) ∨ j = 108 ∨ j = 109 ∨ j = 113
theorem inv_bo {scr : List Int} {h h2 : AH} {le un ke ma : Int} {B C : Bo} (hl : h.length = 130) (hs : h[0]? = some (26, scr)) (ho : h[1]? = some (26, ovr)) (iT : ToI h) (iK : KeI h ke) (iX : TeI h le) (iF : FoI h) (iW : WoI h) (iI : SiI h ma) (iB : BxI h) (T : Fr TB h h2) (s : SsI h2 un) (m : MhI h2 le un ke ma) (n : NoI h2 B C) (p : PaI h2 un) : Inv scr h2 := by
  have N : ∀ j, ¬ (j = 2 ∨ (11 ≤ j ∧ j < 16) ∨ (68 ≤ j ∧ j < 100) ∨ j = 108 ∨ j = 109 ∨ j = 113) → ¬ TB j := fun j z => z
  exact ⟨T.len.trans hl, by rw [T.g 0 (N _ (by omega))]; exact hs, by rw [T.g 1 (N _ (by omega))]; exact ho, le, un, ke, ma, B, C, s, m, n, iT.fr T (fun j a b => N _ (by omega)) (N _ (by omega)), p, iK.fr T (N _ (by omega)) (N _ (by omega)) (N _ (by omega)) (fun j a b => N _ (by omega)), iX.fr T (N _ (by omega)) (N _ (by omega)) (N _ (by omega)), iF.fr T (fun j a b => N _ (by omega)), iW.fr T (N _ (by omega)) (N _ (by omega)) (fun j a b => N _ (by omega)) (N _ (by omega)) (N _ (by omega)), iI.fr T (fun j a b => N _ (by omega)) (N _ (by omega)), iB.fr T (fun j a b => N _ (by omega)) (fun j a b => N _ (by omega))⟩
/-- the class's change of the board behind remember, the model's behind notes -/
theorem both_note {scr : List Int} {h : AH} {le un ke ma : Int} {B C : Bo} (hl : h.length = 130) (hs : h[0]? = some (26, scr)) (ho : h[1]? = some (26, ovr)) (iS : SsI h un) (iM : MhI h le un ke ma) (iN : NoI h B C) (iT : ToI h) (iP : PaI h un) (iK : KeI h ke) (iX : TeI h le) (iF : FoI h) (iW : WoI h) (iI : SiI h ma) (iB : BxI h) :
    ∃ h1 : AH, cal 58 m_Ss_remember [(106, 2)] h = some (0, h1) ∧ BdH h1 11 B ∧ (∃ un', SsI h1 un') ∧ ∀ B' : Bo, (setB h1 11 B')[0]? = some (26, scr) ∧ MnH (setB h1 11 B') 108 C ∧ ∃ h2 : AH, cal 58 m_Mo_notes [(107, 108)] (setB h1 11 B') = some (0, h2) ∧ MnH h2 108 C ∧ ∀ C' : Bo, Pr B' C' → Inv scr (setN h2 108 C') := by
  obtain ⟨u0, u1, ps, P, CC, A, M⟩ := iP.sp
  obtain ⟨pl, be, to, va, br, la, hm⟩ := iM
  obtain ⟨H, e9, p⟩ := id iN
  have O := p.1.ok
  obtain ⟨h1, un', ps', P', c1, c2, c3, c4, c5, c6⟩ := c_remember (d := 56) iS A u0 u1 H O
  have H1 : BdH h1 11 B := H.fr c5 (fun j a b => by omega)
  have hl1 := H1.lt
  have uu : 0 ≤ un' ∧ un' ≤ 8 := by rw [c2]; split <;> omega
  refine ⟨h1, c1, H1, ⟨un', c3⟩, fun B' => ?_⟩
  have F1 : Fr TB h (setB h1 11 B') := by
    refine Fr.tr (c5.wd (fun j z => ?_)) (fr_setB hl1 (fun j a b => ?_))
    · show j = 2 ∨ (11 ≤ j ∧ j < 16) ∨ (68 ≤ j ∧ j < 100) ∨ j = 108 ∨ j = 109 ∨ j = 113
      omega
    · show j = 2 ∨ (11 ≤ j ∧ j < 16) ∨ (68 ≤ j ∧ j < 100) ∨ j = 108 ∨ j = 109 ∨ j = 113
      omega
  have G : ∀ j, 100 ≤ j → (setB h1 11 B')[j]? = h[j]? := fun j z => by rw [setB_ne hl1 (by omega), c5.g j (by omega)]
  have hm1 : (setB h1 11 B')[108]? = some (7, hM le pl be to va br un ke la ma) := by rw [G _ (by omega)]; exact hm
  have e91 : (setB h1 11 B')[109]? = some (20, row C) := by rw [G _ (by omega)]; exact e9
  have M1 : PaM (setB h1 11 B') un P CC := by
    obtain ⟨R, a, b⟩ := M
    exact ⟨R, by rw [G _ (by omega)]; exact a, b⟩
  obtain ⟨h2, C', n1, n2, n3, n4⟩ := m_notes (d := 57) hm1 e91 p.2.1.ok u0 u1 M1 p
  have e92 : h2[109]? = some (20, row C) := by rw [n3.g _ (by omega)]; exact e91
  refine ⟨by rw [F1.g 0 (by unfold TB; omega)]; exact hs, MnH.of hm1 e91, h2, n1, MnH.of n2 e92, fun C2 p2 => ?_⟩
  rw [← c2, ← c6] at n4
  rw [← c2] at n2
  have hl2 := gtl e92
  have F2 : Fr TB (setB h1 11 B') (setN h2 108 C2) := by
    refine Fr.tr (n3.wd (fun j z => ?_)) (fr_set ?_)
    · show j = 2 ∨ (11 ≤ j ∧ j < 16) ∨ (68 ≤ j ∧ j < 100) ∨ j = 108 ∨ j = 109 ∨ j = 113
      omega
    · show (109 : Nat) = 2 ∨ (11 ≤ 109 ∧ 109 < 16) ∨ (68 ≤ 109 ∧ 109 < 100) ∨ 109 = 108 ∨ 109 = 109 ∨ 109 = 113
      omega
  have F3 : Fr (fun j => j = 108 ∨ j = 109 ∨ j = 113) (setB h1 11 B') (setN h2 108 C2) := (n3.wd (fun j z => by omega)).tr (fr_set (by omega))
  have c4' : PaC (setB h1 11 B') un' ps' P' := c4.fr (Q := fun j => 11 ≤ j ∧ j < 15) (fr_setB hl1 (fun j a b => by omega)) (by omega) (fun j a b => by omega) uu.2
  have c3' : SsI (setB h1 11 B') un' := c3.fr (P := fun j => 11 ≤ j ∧ j < 15) (fr_setB hl1 (fun j a b => by omega)) (by omega)
  refine inv_bo (B := B') (C := C2) hl hs ho iT iK iX iF iW iI iB (F1.tr F2) (c3'.fr F3 (by omega)) ⟨pl, be, to, va, br, la, ?_⟩ ⟨(bdH_set hl1).fr F3 (fun j a b => by omega), ?_, p2⟩ (PaI.jn uu.1 uu.2 (c4'.fr F3 (by omega) (fun j a b => by omega) uu.2) (n4.fr (Q := fun j => j = 109) (fr_set rfl) (by omega)))
  · show (h2.set 109 _)[108]? = _
    rw [getN (by omega)]; exact n2
  · show (h2.set 109 _)[109]? = _
    rw [getS hl2]
section OPS
variable {scr : List Int}
theorem op_move (a : Int) : Op scr m_Ss_move m_Mo_move [(0, a)] := by
  intro h I
  obtain ⟨hl, hs, ho, le, un, ke, ma, B, C, iS, iM, iN, iT, iP, iK, iX, iF, iW, iI, iB⟩ := id I
  obtain ⟨h1, q1, q2, ⟨un', q3⟩, q4⟩ := both_note hl hs ho iS iM iN iT iP iK iX iF iW iI iB
  obtain ⟨pl, be, to, va, br, la, hm⟩ := iM
  obtain ⟨H, e9, p⟩ := iN
  obtain ⟨G1, G2, g3, E⟩ := id p
  have O := G1.ok
  have OC := G2.ok
  have MN := MnH.of hm e9
  have w5 := O.w5
  have c1 : cal 58 m_Bd_has [(100, 11), (0, a)] h = some (bI (decide (0 ≤ a ∧ a < 2 * B.w)), h) := c_has (n := 11) H O a
  have m1 : cal 58 m_Mo_isHouse [(107, 108), (0, a)] h = some (bI (decide (0 ≤ a ∧ a < 2 * B.w)), h) := by
    have := m_isHouse (d := 56) MN OC a
    rw [E.1] at this
    exact this
  by_cases hi : 0 ≤ a ∧ a < 2 * B.w
  · rw [bI_t hi] at c1 m1
    obtain ⟨h0, h9⟩ := hi
    have c2 : cal 58 m_Bd_goes [(100, 11), (0, a)] h = some (bI (B.go a), h) := c_bGoes (n := 11) H O h0 (by omega)
    have m2 : cal 58 m_Mo_canGo [(107, 108), (0, a)] h = some (bI (B.go a), h) := by
      rw [← E.go h0 h9]; exact m_canGo (q := 108) MN OC h0 (by omega)
    cases hg : B.go a with
    | false =>
      rw [hg] at c2 m2
      refine ⟨-4, h, h, ?_, hs, ?_, I⟩
      · rw [k_Ss_move]
        simp only [iS.r2, c1, c2, Option.bind_some, bI]
        rfl
      · rw [k_Mo_move]
        simp only [m1, m2, Option.bind_some, bI]
        rfl
    | true =>
      rw [hg] at c2 m2
      have c3 : cal 58 m_Bd_moves [(100, 11)] h = some (B.m, h) := c_moves (n := 11) H
      have r1 : rdr 7 h 108 0 = some 109 := MN.now
      have r2 : rda 20 h 109 4 = some B.m := by rw [← E.2.2.2.2.1]; exact MN.rm
      by_cases hmm : B.m < 999
      · have b1 := G1.bb (s := B.t)
        have b2 := G2.bb (s := C.t)
        have c4 : cal 58 m_Bd_sow [(100, 11), (0, a)] h1 = some (brg B a, setB h1 11 (sow B a)) := c_sow (n := 11) q2 O (by omega) h0 h9
        obtain ⟨s0, s1, h2, s2, s3, s4⟩ := q4 (sow B a)
        have m4 : cal 58 m_Mo_goes [(107, 108), (0, a)] h2 = some (brg C a, setN h2 108 (sow C a)) := m_goes (q := 108) s3 OC b2 h0 (by rw [E.1]; exact h9)
        have eb : brg C a = brg B a := (E.sow' O OC (by omega) h0 h9).2
        rw [eb] at m4
        refine ⟨brg B a, setB h1 11 (sow B a), setN h2 108 (sow C a), ?_, s0, ?_, s4 _ (p.sw hmm h0 h9)⟩
        · rw [k_Ss_move]
          simp only [iS.r2, c1, c2, c3, q1, q3.r2, c4, Option.bind_some, hmm, bI]
          rfl
        · have K := s1
          have x1 : cal 58 m_Mo_isHouse [(107, 108), (0, a)] (setB h1 11 (sow B a)) = some (1, setB h1 11 (sow B a)) := by
            have := m_isHouse (d := 56) s1 OC a
            rw [E.1, bI_t ⟨h0, h9⟩] at this
            exact this
          have x2 : cal 58 m_Mo_canGo [(107, 108), (0, a)] (setB h1 11 (sow B a)) = some (1, setB h1 11 (sow B a)) := by
            have := m_canGo (d := 55) (q := 108) s1 OC h0 (by omega)
            rw [E.go h0 h9, hg] at this
            exact this
          have x3 : rdr 7 (setB h1 11 (sow B a)) 108 0 = some 109 := s1.now
          have x4 : rda 20 (setB h1 11 (sow B a)) 109 4 = some B.m := by rw [← E.2.2.2.2.1]; exact s1.rm
          rw [k_Mo_move]
          simp only [x1, x2, x3, x4, Option.bind_some, s2, m4]
          rw [if_neg (by decide), if_neg (by decide), if_neg (by omega)]
      · refine ⟨-5, h, h, ?_, hs, ?_, I⟩
        · rw [k_Ss_move]
          simp only [iS.r2, c1, c2, c3, Option.bind_some, hmm, bI]
          rfl
        · rw [k_Mo_move]
          simp only [m1, m2, r1, r2, Option.bind_some, bI]
          rw [if_neg (by decide), if_neg (by decide), if_pos (by omega)]
  · rw [bI_f hi] at c1 m1
    refine ⟨-2, h, h, ?_, hs, ?_, I⟩
    · rw [k_Ss_move]
      simp only [iS.r2, c1, Option.bind_some, if_true]
    · rw [k_Mo_move]
      simp only [m1, Option.bind_some, if_true]
end OPS
