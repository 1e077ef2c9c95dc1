/-! What a move would bring; rash moves. -/
section MW
variable {h : AH} {d : Nat} {le pl be to va br un ke la ma : Int} {C D : Bo} {R ys : List Int}
theorem m_asides (hm : h[108]? = some (7, hM le pl be to va br un ke la ma)) (e9 : h[109]? = some (20, row C)) (OC : BoOK C) (e15 : h[115]? = some (20, ys)) (l15 : ys.length = 25) : cal (d + 1) m_Mo_asides [(107, 108)] h = some (0, h.set 115 (20, row C)) := by
  have z := m_as2 (d := d) hm e9 (by rw [row_len OC]; omega) (gtl e15) 25 0 ys (by omega) (by omega)
  rw [set_same e15, cp_row At.sf (row_len OC) l15] at z
  rw [k_Mo_asides]
  refine z.trans ?_
  rw [k_Mo_asides_2, if_neg (by omega)]
theorem m_backs (hm : h[108]? = some (7, hM le pl be to va br un ke la ma)) (e9 : h[109]? = some (20, ys)) (l9 : ys.length = 25) (e15 : h[115]? = some (20, row C)) (OC : BoOK C) : cal (d + 1) m_Mo_backs [(107, 108)] h = some (0, h.set 109 (20, row C)) := by
  have z := m_bk2 (d := d) hm e15 (by rw [row_len OC]; omega) (gtl e9) 25 0 ys (by omega) (by omega)
  rw [set_same e9, cp_row At.sf (row_len OC) l9] at z
  rw [k_Mo_backs]
  refine z.trans ?_
  rw [k_Mo_backs_2, if_neg (by omega)]
theorem m_laysBack {t : Int} (t0 : 0 ≤ t) (t6 : t < 6) (hm : h[108]? = some (7, hM le pl be to va br un ke la ma)) (e9 : h[109]? = some (20, ys)) (l9 : ys.length = 25) (e16 : h[116]? = some (20, R)) (l16 : R.length = 175) (A : At R (25 * t.toNat) (row C)) (OC : BoOK C) : cal (d + 1) m_Mo_laysBack [(107, 108), (0, t)] h = some (0, h.set 109 (20, row C)) := by
  have z := m_lb2 (d := d) t0 t6 hm e16 (by omega) (gtl e9) 25 0 ys (by omega) (by omega)
  rw [set_same e9, cp_row A (row_len OC) l9] at z
  rw [k_Mo_laysBack]
  refine z.trans ?_
  rw [k_Mo_laysBack_2, if_neg (by omega)]
theorem m_wouldBring {i : Int} (hm : h[108]? = some (7, hM le pl be to va br un ke la ma)) (e9 : h[109]? = some (20, row C)) (G : GB C) (e16 : h[116]? = some (20, R)) (l16 : R.length = 175) (h0 : 0 ≤ i) (h1 : i < 2 * C.w) : ∃ R' : List Int, R'.length = 175 ∧ cal (d + 5) m_Mo_wouldBring [(107, 108), (0, i)] h = some (brg C i, h.set 116 (20, R')) := by
  have OC := G.ok
  have z := m_wb2 (d := d + 4) (i := i) (v := (9, 0)) hm e9 (by rw [row_len OC]; omega) (gtl e16) 25 0 R (by omega) (by omega)
  rw [set_same e16] at z
  have aR : At (cpN (row C) 0 150 25 0 R) 150 (row C) := At.sf.cp (row_len OC) (by omega)
  have lR : (cpN (row C) 0 150 25 0 R).length = 175 := by rw [cpN_len]; exact l16
  generalize cpN (row C) 0 150 25 0 R = R' at z aR lR
  have hm2 : (h.set 116 (20, R'))[108]? = some (7, hM le pl be to va br un ke la ma) := by rw [getN (by omega)]; exact hm
  have e92 : (h.set 116 (20, R'))[109]? = some (20, row C) := by rw [getN (by omega)]; exact e9
  have g : cal (d + 4) m_Mo_goes [(107, 108), (0, i)] (h.set 116 (20, R')) = some (brg C i, setN (h.set 116 (20, R')) 108 (sow C i)) := m_goes (q := 108) (MnH.of hm2 e92) OC G.bb h0 h1
  have hm3 : (setN (h.set 116 (20, R')) 108 (sow C i))[108]? = some (7, hM le pl be to va br un ke la ma) := by
    show ((h.set 116 (20, R')).set 109 _)[108]? = _
    rw [getN (by omega)]; exact hm2
  have e93 : (setN (h.set 116 (20, R')) 108 (sow C i))[109]? = some (20, row (sow C i)) := getS (gtl e92)
  have e163 : (setN (h.set 116 (20, R')) 108 (sow C i))[116]? = some (20, R') := by
    show ((h.set 116 (20, R')).set 109 _)[116]? = _
    rw [getN (by omega)]; exact getS (gtl e16)
  have ls : (row (sow C i)).length = 25 := by
    have hb := G.bb (s := C.t)
    obtain ⟨OS, -, -, -⟩ := sowC_ok OC (by omega) h0 h1
    simp [row, show (sow C i).ks.length = 10 from OS.kl, show (sow C i).ss.length = 10 from OS.sl]
  have z2 := m_wb38 (d := d + 4) (i := i) (x := brg C i) hm3 e163 (by omega) (gtl e93) 25 0 (row (sow C i)) (by omega) (by omega)
  rw [set_same e93, cp_row aR (row_len OC) ls] at z2
  refine ⟨R', lR, ?_⟩
  rw [k_Mo_wouldBring]
  refine z.trans ?_
  rw [k_Mo_wouldBring_2, if_neg (by omega), g, Option.bind_some]
  refine z2.trans ?_
  rw [k_Mo_wouldBring_38, if_neg (by omega)]
  show some (brg C i, ((h.set 116 (20, R')).set 109 _).set 109 (20, row C)) = _
  rw [List.set_set, set_same e92]
end MW
section FO
variable {h : AH} {d : Nat} {B : Bo}
theorem FoI.r0 (F : FoI h) : rdr 3 h 20 0 = some 21 := by
  obtain ⟨⟨ch, a⟩, b, c⟩ := F
  exact rdr_n (n := 20) a rfl (by omega)
theorem FoI.rd (F : FoI h) {i : Int} (h0 : 0 ≤ i) (h1 : i < 6) : rdar 24 h 21 i = some ((22 + 4 * i.toNat : Nat) : Int) := by
  obtain ⟨a, b, c⟩ := F
  refine rdar_n (n := 21) b h0 ?_ (by omega)
  obtain ⟨j, rfl⟩ : ∃ j : Nat, i = (j : Int) := ⟨i.toNat, by omega⟩
  rw [Int.toNat_natCast]
  rcases six (show j < 6 by omega) with rfl | rfl | rfl | rfl | rfl | rfl <;> rfl
theorem FoI.st (F : FoI h) {i : Nat} (hi : i < 6) (O : BoOK B) : FoI (setB h (22 + 4 * i) B) := by
  obtain ⟨⟨ch, a⟩, b, c⟩ := F
  obtain ⟨D, e, o⟩ := c i hi
  have hl := e.lt
  refine ⟨⟨ch, by rw [setB_ne hl (by omega)]; exact a⟩, by rw [setB_ne hl (by omega)]; exact b, fun j hj => ?_⟩
  by_cases z : j = i
  · subst z; exact ⟨B, bdH_set hl, O⟩
  · obtain ⟨D', e', o'⟩ := c j hj
    exact ⟨D', bdH_ne hl e' (by omega), o'⟩
end FO
theorem inv_fo {scr : List Int} {h h2 : AH} {le un ke ma : Int} {B C : Bo} (hl : h.length = 130) (hs : h[0]? = some (26, scr)) (ho : h[1]? = some (26, ovr)) (iS : SsI h un) (iT : ToI h) (iP : PaI h un) (iK : KeI h ke) (iX : TeI h le) (iI : SiI h ma) (iB : BxI h) (T : Fr (fun j => (20 ≤ j ∧ j < 46) ∨ j = 108 ∨ j = 109 ∨ j = 115 ∨ (116 ≤ j ∧ j < 122)) h h2) (m : MhI h2 le un ke ma) (n : NoI h2 B C) (f : FoI h2) (w : WoI h2) : Inv scr h2 :=
  ⟨T.len.trans hl, by rw [T.g 0 (by omega)]; exact hs, by rw [T.g 1 (by omega)]; exact ho, le, un, ke, ma, B, C, iS.fr T (by omega), m, n, iT.fr T (fun j a b => by omega) (by omega), iP.fr T (by omega) (by omega) (fun j a b => by omega), iK.fr T (by omega) (by omega) (by omega) (fun j a b => by omega), iX.fr T (by omega) (by omega) (by omega), f, w, iI.fr T (fun j a b => by omega) (by omega), iB.fr T (fun j a b => by omega) (fun j a b => by omega)⟩
theorem LnI.st {h : AH} {n t l : Nat} {xs : List Int} (hn : n < h.length) (lx : xs.length = l) : LnI (h.set n (t, xs)) n t l := ⟨xs, getS hn, lx⟩
section OPS
variable {scr : List Int}
theorem op_brings (a : Int) : Op scr m_Ss_brings m_Mo_brings [(0, a)] := by
  intro h I
  obtain ⟨hl, hs, ho, le, un, ke, ma, B, C, iS, ⟨pl, be, to, va, br, la, hm⟩, iN, iT, iP, iK, iX, iF, iW, iI, iB⟩ := id I
  obtain ⟨H, e9, p⟩ := id iN
  obtain ⟨G1, G2, g3, E⟩ := id p
  have O := G1.ok
  have OC := G2.ok
  have MN := MnH.of hm e9
  have w5 := O.w5
  have c1 : cal 58 m_Bd_has [(100, 11), (0, a)] h = some (bI (decide (0 ≤ a ∧ a < 2 * B.w)), h) := c_has (n := 11) H O a
  have m1 : ∀ g : AH, MnH g 108 C → cal 58 m_Mo_isHouse [(107, 108), (0, a)] g = some (bI (decide (0 ≤ a ∧ a < 2 * B.w)), g) := by
    intro g MN
    have := m_isHouse (d := 56) MN OC a
    rw [E.1] at this
    exact this
  by_cases hi : 0 ≤ a ∧ a < 2 * B.w
  · rw [bI_t hi] at c1 m1
    obtain ⟨h0, h9⟩ := hi
    have c2 : cal 58 m_Bd_goes [(100, 11), (0, a)] h = some (bI (B.go a), h) := c_bGoes (n := 11) H O h0 (by omega)
    have m2 : ∀ g : AH, MnH g 108 C → cal 58 m_Mo_canGo [(107, 108), (0, a)] g = some (bI (B.go a), g) := by
      intro g MN
      rw [← E.go h0 h9]; exact m_canGo (q := 108) MN OC h0 (by omega)
    cases hg : B.go a with
    | false =>
      rw [hg] at c2 m2
      refine ⟨-4, h, h, ?_, hs, ?_, I⟩
      · rw [k_Ss_brings]
        simp only [iS.r2, c1, c2, Option.bind_some, bI]
        rfl
      · rw [k_Mo_brings]
        simp only [m1 h MN, m2 h MN, Option.bind_some, bI]
        rfl
    | true =>
      rw [hg] at c2 m2
      have b1 := G1.bb (s := B.t)
      obtain ⟨D, hD, oD⟩ := iF.2.2 0 (by omega)
      have hD : BdH h 22 D := hD
      have hl2 := hD.lt
      have r1 : rdar 24 h 21 0 = some 22 := iF.rd (by omega) (by omega)
      have cp : cal 57 m_Bd_copy [(100, 22), (100, 11)] h = some (0, setB h 22 B) := c_copy (n := 22) (n' := 11) hD H oD O (by omega)
      have F1 : FoI (setB h 22 B) := iF.st (i := 0) (by omega) O
      have r2 : rdar 24 (setB h 22 B) 21 0 = some 22 := F1.rd (by omega) (by omega)
      have so : cal 57 m_Bd_sow [(100, 22), (0, a)] (setB h 22 B) = some (brg B a, setB (setB h 22 B) 22 (sow B a)) := c_sow (n := 22) (bdH_set hl2) O (by omega) h0 h9
      rw [setB_setB hl2] at so
      have F2 : FoI (setB h 22 (sow B a)) := iF.st (i := 0) (by omega) (G1.sw (by omega) h0 h9).ok
      have T1 : Fr (fun j => 20 ≤ j ∧ j < 46) h (setB h 22 (sow B a)) := fr_setB hl2 (fun j a b => by omega)
      have bb : cal 58 m_Fo_broughtBy [(103, 20), (100, 11), (0, a)] h = some (brg B a, setB h 22 (sow B a)) := by
        rw [k_Fo_broughtBy]
        simp only [iF.r0, r1, cp, F1.r0, r2, so, Option.bind_some]
      generalize setB h 22 (sow B a) = g at bb F2 T1
      obtain ⟨w1, w2, ⟨R, w3, w3'⟩, w4, w5', w6, w7, w8, w9, w10⟩ := iW.fr T1 (by omega) (by omega) (fun j a b => by omega) (by omega) (by omega)
      have hm2 : g[108]? = some (7, hM le pl be to va br un ke la ma) := by rw [T1.g _ (by omega)]; exact hm
      have e92 : g[109]? = some (20, row C) := by rw [T1.g _ (by omega)]; exact e9
      obtain ⟨R', lR', wb⟩ := m_wouldBring (d := 53) hm2 e92 G2 w3 w3' h0 (by rw [E.1]; exact h9)
      have eb : brg C a = brg B a := (E.sow' O OC (by omega) h0 h9).2
      rw [eb] at wb
      have T2 : Fr (fun j => j = 116) g (g.set 116 (20, R')) := fr_set rfl
      refine ⟨brg B a, g, g.set 116 (20, R'), ?_, by rw [T1.g _ (by omega)]; exact hs, ?_, ?_⟩
      · rw [k_Ss_brings]
        simp only [iS.r2, iS.r7, c1, c2, bb, Option.bind_some, bI]
        rfl
      · rw [k_Mo_brings]
        have wb : cal 58 m_Mo_wouldBring [(107, 108), (0, a)] g = _ := wb
        simp only [m1 g (MnH.of hm2 e92), m2 g (MnH.of hm2 e92), wb, Option.bind_some, bI]
        rfl
      · exact inv_fo (B := B) (C := C) hl hs ho iS iT iP iK iX iI iB ((T1.wd (fun j z => by omega)).tr (T2.wd (fun j z => by omega))) ⟨pl, be, to, va, br, la, by rw [T2.g _ (by omega)]; exact hm2⟩ ((iN.fr T1 (fun j a b => by omega) (by omega)).fr T2 (fun j a b => by omega) (by omega)) (F2.fr T2 (fun j a b => by omega)) ⟨w1.fr T2 (by omega), w2.fr T2 (by omega), LnI.st (gtl w3) lR', w4.fr T2 (by omega), w5'.fr T2 (by omega), w6.fr T2 (by omega), w7.fr T2 (by omega), w8.fr T2 (by omega), w9.fr T2 (by omega), w10.fr T2 (by omega)⟩
  · rw [bI_f hi] at c1 m1
    refine ⟨-2, h, h, ?_, hs, ?_, I⟩
    · rw [k_Ss_brings]
      simp only [iS.r2, c1, Option.bind_some, if_true]
    · rw [k_Mo_brings]
      simp only [m1 h MN, Option.bind_some, if_true]
end OPS
