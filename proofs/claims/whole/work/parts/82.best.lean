/-! best and gift. -/
theorem ws_of {h : AH} {C : Bo} {le pl be to va br un ke la ma : Int} (hm : h[108]? = some (7, hM le pl be to va br un ke la ma)) (e9 : h[109]? = some (20, row C)) (O : BoOK C) (W : WoI h) : ∃ s : Wt, WS h (le, pl, be, to, va, br, un, ke, ma) s ∧ s.ys = row C := by
  obtain ⟨-, -, ⟨R, w3, w3'⟩, ⟨ho, w4, w4'⟩, ⟨ls, w5, w5'⟩, ⟨il, w6, w6'⟩, ⟨li, w7, w7'⟩, -⟩ := W
  exact ⟨mkW la (row C) R ho ls il li, ⟨hm, e9, w3, w4, w5, w6, w7, row_len O, w3', w4', w5', w6', w7'⟩, rfl⟩
theorem wo_of {h g : AH} {q : Hd} {s : Wt} {P : Nat → Prop} (W : WoI h) (T : Fr P h g) (a : ¬ P 112) (a2 : LnI g 115 20 25) (a3 : ¬ P 121) (b : ¬ P 128) (c : ¬ P 129) (S : WS g q s) : WoI g := by
  obtain ⟨w1, w2, -, -, -, -, -, w8, w9, w10⟩ := W
  exact ⟨w1.fr T a, a2, ⟨s.R, S.r, S.lr⟩, ⟨s.ho, S.o, S.lo⟩, ⟨s.ls, S.l, S.ll⟩, ⟨s.il, S.i, S.lI⟩, ⟨s.li, S.n, S.ln⟩, w8.fr T a3, w9.fr T b, w10.fr T c⟩
section OPS
variable {scr : List Int}
theorem op_best (a b : Int) : Op scr m_Ss_best m_Mo_best [(0, a), (0, b)] := by
  intro h I
  obtain ⟨hl, hs, ho, le, un, ke, ma, B, C, iS, ⟨pl, be, to, va, br, la, hm⟩, iN, iT, iP, iK, iX, iF, iW, iI, iB⟩ := id I
  obtain ⟨H, e9, p⟩ := id iN
  obtain ⟨G1, G2, g3, E⟩ := id p
  have t01 := G1.1.t01
  have c1 : cal 58 m_Ss_isWithin [(0, a), (0, 1), (0, 5)] h = some (bI (decide (1 ≤ a ∧ a ≤ 5)), h) := c_within a 1 5
  have m1 : ∀ g : AH, cal 58 m_Mo_in [(2, a), (2, 1), (2, 5)] g = some (bI (decide (1 ≤ a ∧ a ≤ 5)), g) := fun g => m_in a 1 5
  have c2 : cal 58 m_Ss_isWithin [(0, b), (0, -1), (0, 4)] h = some (bI (decide (-1 ≤ b ∧ b ≤ 4)), h) := c_within b (-1) 4
  have m2 : ∀ g : AH, cal 58 m_Mo_in [(2, b), (2, -1), (2, 4)] g = some (bI (decide (-1 ≤ b ∧ b ≤ 4)), g) := fun g => m_in b (-1) 4
  by_cases ha : 1 ≤ a ∧ a ≤ 5
  rotate_left
  · rw [bI_f ha] at c1 m1
    refine ⟨-3, h, h, ?_, hs, ?_, I⟩
    · rw [k_Ss_best]; simp only [c1, Option.bind_some]; rfl
    · rw [k_Mo_best]; simp only [m1, Option.bind_some]; rfl
  rw [bI_t ha] at c1 m1
  by_cases hb : -1 ≤ b ∧ b ≤ 4
  rotate_left
  · rw [bI_f hb] at c2 m2
    refine ⟨-3, h, h, ?_, hs, ?_, I⟩
    · rw [k_Ss_best]; simp only [c1, c2, Option.bind_some]; rfl
    · rw [k_Mo_best]; simp only [m1, m2, Option.bind_some]; rfl
  rw [bI_t hb] at c2 m2
  obtain ⟨Y, hY, oY⟩ := iF.2.2 0 (by omega)
  have hY : BdH h 22 Y := hY
  have r0 : rdar 24 h 21 0 = some 22 := iF.rd (by omega) (by omega)
  have cp : cal 57 m_Bd_copy [(100, 22), (100, 11)] h = some (0, setB h 22 B) := c_copy (n := 22) (n' := 11) hY H oY G1.1 (by omega)
  have F1 : FoI (setB h 22 B) := iF.st (i := 0) (by omega) G1.1
  have T1 : Fr (fun j => 20 ≤ j ∧ j < 46) h (setB h 22 B) := fr_setB hY.lt (fun j a b => by omega)
  have H1 : BdH (setB h 22 B) 22 B := bdH_set hY.lt
  generalize setB h 22 B = g1 at cp F1 T1 H1
  have ea : ((a.toNat : Nat) : Int) = a := by omega
  -- the model's side, whatever the class did on its own boards
  have MO : ∀ g : AH, Fr (fun j => 20 ≤ j ∧ j < 46) h g → FoI g → ∃ (g' : AH) (s' : Wt), cal 58 m_Mo_looksAhead [(107, 108), (0, a)] g = some (if B.t = 0 then val a.toNat B else -(val a.toNat B), g') ∧ rdr 7 g' 108 0 = some 109 ∧ rda 20 g' 109 1 = some B.t ∧ rdr 7 g' 108 19 = some 120 ∧ (∀ k : Nat, k < 6 → rda 20 g' 120 (k : Int) = some (lin a.toNat B k)) ∧ Inv scr g' := by
    intro g T F
    have hm2 : g[108]? = some (7, hM le pl be to va br un ke la ma) := by rw [T.g _ (by omega)]; exact hm
    have e92 : g[109]? = some (20, row C) := by rw [T.g _ (by omega)]; exact e9
    have W2 := iW.fr T (by omega) (by omega) (fun j a b => by omega) (by omega) (by omega)
    obtain ⟨s, S, ys⟩ := ws_of hm2 e92 G2.1 W2
    obtain ⟨g', s', l1, S', ys', ln, T2⟩ := m_looksAhead (n0 := 53) (D := a.toNat) (by omega) (by omega) G2 (by rw [E.2.2.2.2.1]; omega) S ys
    have M' := S'.mn ys'
    rw [ea, E.2.1, val_eq _ _ _ E G1 G2 (by omega)] at l1
    refine ⟨g', s', l1, M'.now, by rw [← E.2.1]; exact M'.rt, hq S' rfl (by omega), fun k hk => ?_, ?_⟩
    · refine (rda_n (n := 120) S'.n k).trans ?_
      rw [ln k hk, lin_eq _ _ _ _ E G1 G2 (by omega)]
    · have T3 : Fr (fun j => (20 ≤ j ∧ j < 46) ∨ j = 108 ∨ j = 109 ∨ j = 115 ∨ (116 ≤ j ∧ j < 122)) h g' := (T.wd (fun j z => by omega)).tr (T2.wd (fun j z => by unfold W0 at z; omega))
      have N2 : ∀ j, ¬ (j = 108 ∨ j = 109 ∨ (116 ≤ j ∧ j < 121)) → ¬ W0 j := fun j z => z
      exact inv_fo (B := B) (C := C) hl hs ho iS iT iP iK iX iI iB T3 ⟨pl, be, to, va, br, s'.la, S'.h⟩ ⟨(H.fr T (fun j a b => by omega)).fr T2 (fun j a b => N2 j (by omega)), by rw [← ys']; exact S'.y, p⟩ (F.fr T2 (fun j a b => N2 j (by omega))) (wo_of W2 T2 (N2 _ (by omega)) (W2.2.1.fr T2 (N2 _ (by omega))) (N2 _ (by omega)) (N2 _ (by omega)) (N2 _ (by omega)) S')
  by_cases k1 : b = -1
  · obtain ⟨g2, s1, F2, H2, T2, -⟩ := c_root (left := a.toNat) (N := 57) (by omega) (by omega) G1 (by omega) F1 H1
    rw [ea] at s1
    have T12 := T1.tr T2
    obtain ⟨g', s', l1, r1, r2, r3, r4, J⟩ := MO g2 T12 F2
    refine ⟨a_add 5000 (val a.toNat B), g2, g', ?_, by rw [T12.g _ (by omega)]; exact hs, ?_, J⟩
    · have bl : cal 58 m_Fo_bestLead [(103, 20), (100, 11), (0, a)] h = some (val a.toNat B, g2) := by
        rw [k_Fo_bestLead]
        simp only [iF.r0, r0, cp, s1, Option.bind_some]
      rw [k_Ss_best]
      simp only [c1, c2, iS.r7, iS.r2, bl, Option.bind_some]
      rw [if_neg (by decide), if_neg (by decide), if_pos k1]
    · have vr := val_r a.toNat B G1 (by omega)
      rw [k_Mo_best]
      simp only [m1, m2, l1, r1, r2, Option.bind_some]
      rw [if_neg (by decide), if_neg (by decide), if_pos (by omega)]
      rcases t01 with z | z
      · simp only [z, if_pos]
      · simp only [z]
        rw [if_neg (by decide), if_neg (by decide), neg_id (by omega) (by omega), Int.neg_neg]
  · obtain ⟨g2, s1, F2, T2⟩ := c_line13 (N := 57) (D := a) (k := b) (by omega) (by omega) (by omega) a.toNat b.toNat 0 B g1 G1 (by omega) F1 H1 (by omega) (by omega) (by omega)
    have T12 := T1.tr T2
    obtain ⟨g', s', l1, r1, r2, r3, r4, J⟩ := MO g2 T12 F2
    refine ⟨lin a.toNat B b.toNat, g2, g', ?_, by rw [T12.g _ (by omega)]; exact hs, ?_, J⟩
    · have bl : cal 58 m_Fo_lineMove [(103, 20), (100, 11), (0, a), (0, b)] h = some (lin a.toNat B b.toNat, g2) := by
        rw [k_Fo_lineMove]
        simp only [iF.r0, r0, cp, Option.bind_some]
        exact s1
      rw [k_Ss_best]
      simp only [c1, c2, iS.r7, iS.r2, bl, Option.bind_some]
      rw [if_neg (by decide), if_neg (by decide), if_neg k1]
    · have r5 : rda 20 g' 120 b = some (lin a.toNat B b.toNat) := by
        have := r4 b.toNat (by omega)
        rw [show ((b.toNat : Nat) : Int) = b by omega] at this
        exact this
      rw [k_Mo_best]
      simp only [m1, m2, l1, r3, r5, Option.bind_some]
      rw [if_neg (by decide), if_neg (by decide), if_neg (by omega)]
end OPS
theorem gif_eq {B C : Bo} {D : Nat} (E : EqB B C) (G : GB B) (G' : GB C) (hm : B.m + (D : Int) ≤ 1100) : ∀ (n : Nat) (m f c : Int), 0 ≤ c → c + (n : Int) = 2 * B.w → gif C D n m f c = gif B D n m f c := by
  have w5 := G.1.w5
  intro n
  induction n with
  | zero => intro m f c _ _; rfl
  | succ n ih =>
    intro m f c c0 cn
    have si := si_r G.1 c0 (show c < 10 by omega)
    have es := (E.2.2.2.2.2 c c0 (by omega)).2
    show (if (sd C.w c = C.t ∧ C.si c < 99) ∧ m < val D (C.setS c (C.si c + 1)) then gif C D n (val D (C.setS c (C.si c + 1))) c (c + 1) else gif C D n m f (c + 1)) = if (sd B.w c = B.t ∧ B.si c < 99) ∧ m < val D (B.setS c (B.si c + 1)) then gif B D n (val D (B.setS c (B.si c + 1))) c (c + 1) else gif B D n m f (c + 1)
    rw [E.1, E.2.1, es]
    by_cases z : B.si c < 99
    · have ev : val D (C.setS c (B.si c + 1)) = val D (B.setS c (B.si c + 1)) := val_eq _ _ _ (E.setS G.1 G'.1 c0 (by omega)) (G.setS (by omega) (by omega)) (G'.setS (by omega) (by omega)) hm
      rw [ev, ih _ _ _ (by omega) (by omega), ih _ _ _ (by omega) (by omega)]
    · rw [if_neg (fun y => z y.1.2), if_neg (fun y => z y.1.2), ih _ _ _ (by omega) (by omega)]
def W5 (j : Nat) : Prop := j = 108 ∨ j = 109 ∨ j = 115 ∨ (116 ≤ j ∧ j < 121)
theorem m_gift48 {q : Hd} {D : Nat} {C : Bo} {sg : Int} (hsg : sg = if C.t = 0 then 1 else -1) (D1 : 1 ≤ D) (D4 : D ≤ 4) (G : GB C) (hm : C.m + (D : Int) ≤ 1100) : ∀ (n : Nat) (m f c : Int) (v : AV) (g : AH) (s : Wt), WS g q s → s.ys = row C → g[115]? = some (20, row C) → 0 ≤ c → c + (n : Int) = 2 * C.w → ∃ (g' : AH) (s' : Wt), run 59 m_Mo_gift 48 [(107, 108), (0, (D : Int)), (0, sg), (0, m), (0, f), (0, c), v] [] g = some (gif C D n m f c, g') ∧ WS g' q s' ∧ s'.ys = row C ∧ g'[115]? = some (20, row C) ∧ Fr W5 g g' := by
  have O := G.ok
  have w5 := O.w5
  have w2 := O.w2
  have t01 := O.t01
  intro n
  induction n with
  | zero =>
    intro m f c v g s W ey e15 c0 cn
    have M := W.mn ey
    have r1 : rdr 7 g 108 0 = some 109 := M.now
    have r2 : rda 20 g 109 0 = some C.w := M.rw0
    refine ⟨g, s, ?_, W, ey, e15, Fr.rf⟩
    rw [k_Mo_gift_48, r1, Option.bind_some, r2, Option.bind_some, mul_id (by omega) (by omega), if_neg (by omega)]
    rfl
  | succ n ih =>
    intro m f c v g s W ey e15 c0 cn
    have M := W.mn ey
    have r1 : rdr 7 g 108 0 = some 109 := M.now
    have r2 : rda 20 g 109 0 = some C.w := M.rw0
    have r3 : rda 20 g 109 1 = some C.t := M.rt
    have r4 : rda 20 g 109 (a_add 15 c) = some (C.si c) := M.rs O c0 (by omega)
    have cs : cal 58 m_Mo_sideOf [(107, 108), (0, c)] g = some (sd C.w c, g) := m_sideOf (q := 108) M c
    have si := si_r O c0 (show c < 10 by omega)
    show ∃ (g' : AH) (s' : Wt), _ = some (if (sd C.w c = C.t ∧ C.si c < 99) ∧ m < val D (C.setS c (C.si c + 1)) then gif C D n (val D (C.setS c (C.si c + 1))) c (c + 1) else gif C D n m f (c + 1), g') ∧ _
    by_cases z : sd C.w c = C.t
    · by_cases y : C.si c < 99
      · have w1 : wra 20 g 109 (a_add 15 c) (C.si c + 1) = some (g.set 109 (20, row (C.setS c (C.si c + 1)))) := M.ws O c0 (by omega) _
        have GS : GB (C.setS c (C.si c + 1)) := G.setS (by omega) (by omega)
        obtain ⟨W1, T1⟩ := W.s9 (xs := row (C.setS c (C.si c + 1))) (row_len GS.1)
        generalize g.set 109 (20, row (C.setS c (C.si c + 1))) = g1 at w1 W1 T1
        obtain ⟨g2, s2, l1, W2, y2, -, T2⟩ := m_looksAhead (n0 := 53) D1 (by omega) GS hm W1 rfl
        have N2 : ∀ j, ¬ (j = 108 ∨ j = 109 ∨ (116 ≤ j ∧ j < 121)) → ¬ W0 j := fun j z => z
        have e152 : g2[115]? = some (20, row C) := by rw [T2.g _ (N2 _ (by omega)), T1.g _ (N2 _ (by omega))]; exact e15
        have bk : cal 58 m_Mo_backs [(107, 108)] g2 = some (0, g2.set 109 (20, row C)) := m_backs W2.h W2.y W2.ly e152 O
        obtain ⟨W3, T3⟩ := W2.s9 (xs := row C) (row_len O)
        have e153 : (g2.set 109 (20, row C))[115]? = some (20, row C) := by rw [getN (by omega)]; exact e152
        generalize g2.set 109 (20, row C) = g3 at bk W3 T3 e153
        have vr := val_r D (C.setS c (C.si c + 1)) GS hm
        have l1 : cal 58 m_Mo_looksAhead [(107, 108), (0, (D : Int))] g1 = some (if C.t = 0 then val D (C.setS c (C.si c + 1)) else -(val D (C.setS c (C.si c + 1))), g2) := l1
        have ev : a_mul sg (if C.t = 0 then val D (C.setS c (C.si c + 1)) else -(val D (C.setS c (C.si c + 1)))) = val D (C.setS c (C.si c + 1)) := by
          rw [hsg]
          rcases t01 with x | x
          · rw [if_pos x, if_pos x, mul_id (by omega) (by omega)]; omega
          · rw [if_neg (by omega), if_neg (by omega), mul_id (by omega) (by omega)]; omega
        have T : Fr W5 g g3 := ((T1.tr T2).tr T3).wd (fun j z => by unfold W0 at z; unfold W5; omega)
        generalize val D (C.setS c (C.si c + 1)) = V at l1 ev vr
        have Eq : run 59 m_Mo_gift 48 [(107, 108), (0, (D : Int)), (0, sg), (0, m), (0, f), (0, c), v] [] g = if m < V then run 59 m_Mo_gift 48 [(107, 108), (0, (D : Int)), (0, sg), (0, V), (0, c), (0, c + 1), (0, V)] [] g3 else run 59 m_Mo_gift 48 [(107, 108), (0, (D : Int)), (0, sg), (0, m), (0, f), (0, c + 1), (0, V)] [] g3 := by
          rw [k_Mo_gift_48]
          simp only [r1, r2, cs, r3, r4, Option.bind_some]
          rw [mul_id (x := 2) (by omega) (by omega), if_pos (by omega), if_pos z, if_pos y, add_id (x := C.si c) (by omega) (by omega), w1, Option.bind_some]
          simp only [l1, bk, Option.bind_some, ev]
          rw [add_id (x := c) (by omega) (by omega)]
          by_cases x : m < V
          · rw [if_pos x, if_pos x, if_pos x]
          · rw [if_neg x, if_neg x, if_neg x]
        rw [Eq]
        by_cases x : m < V
        · rw [if_pos x, if_pos ⟨⟨z, y⟩, x⟩]
          obtain ⟨g', s', b1, b2, b3, b4, b5⟩ := ih V c (c + 1) (0, V) g3 _ W3 rfl e153 (by omega) (by omega)
          exact ⟨g', s', b1, b2, b3, b4, T.tr b5⟩
        · rw [if_neg x, if_neg (fun w => x w.2)]
          obtain ⟨g', s', b1, b2, b3, b4, b5⟩ := ih m f (c + 1) (0, V) g3 _ W3 rfl e153 (by omega) (by omega)
          exact ⟨g', s', b1, b2, b3, b4, T.tr b5⟩
      · rw [if_neg (fun w => y w.1.2)]
        obtain ⟨g', s', b1, b2⟩ := ih m f (c + 1) v g s W ey e15 (by omega) (by omega)
        refine ⟨g', s', ?_, b2⟩
        rw [k_Mo_gift_48]
        simp only [r1, r2, cs, r3, r4, Option.bind_some]
        rw [mul_id (x := 2) (by omega) (by omega), if_pos (by omega), if_pos z, if_neg y, add_id (x := c) (by omega) (by omega)]
        exact b1
    · rw [if_neg (fun w => z w.1.1)]
      obtain ⟨g', s', b1, b2⟩ := ih m f (c + 1) v g s W ey e15 (by omega) (by omega)
      refine ⟨g', s', ?_, b2⟩
      rw [k_Mo_gift_48]
      simp only [r1, r2, cs, r3, Option.bind_some]
      rw [mul_id (x := 2) (by omega) (by omega), if_pos (by omega), if_neg z, add_id (x := c) (by omega) (by omega)]
      exact b1
section OPS
variable {scr : List Int}
theorem op_gift (a : Int) : Op scr m_Ss_gift m_Mo_gift [(0, a)] := by
  intro h I
  obtain ⟨hl, hs, ho, le, un, ke, ma, B, C, iS, ⟨pl, be, to, va, br, la, hm⟩, iN, iT, iP, iK, iX, iF, iW, iI, iB⟩ := id I
  obtain ⟨H, e9, p⟩ := id iN
  obtain ⟨G1, G2, g3, E⟩ := id p
  have t01 := G2.1.t01
  have w2 := G1.1.w2
  have c1 : cal 58 m_Ss_isWithin [(0, a), (0, 1), (0, 4)] h = some (bI (decide (1 ≤ a ∧ a ≤ 4)), h) := c_within a 1 4
  have m1 : ∀ g : AH, cal 58 m_Mo_in [(2, a), (2, 1), (2, 4)] g = some (bI (decide (1 ≤ a ∧ a ≤ 4)), g) := fun g => m_in a 1 4
  by_cases ha : 1 ≤ a ∧ a ≤ 4
  rotate_left
  · rw [bI_f ha] at c1 m1
    refine ⟨-3, h, h, ?_, hs, ?_, I⟩
    · rw [k_Ss_gift]; simp only [c1, Option.bind_some]; rfl
    · rw [k_Mo_gift]; simp only [m1, Option.bind_some]; rfl
  rw [bI_t ha] at c1 m1
  have ea : ((a.toNat : Nat) : Int) = a := by omega
  obtain ⟨Y, hY, oY⟩ := iF.2.2 0 (by omega)
  have hY : BdH h 22 Y := hY
  have r0 : rdar 24 h 21 0 = some 22 := iF.rd (by omega) (by omega)
  have cp : cal 57 m_Bd_copy [(100, 22), (100, 11)] h = some (0, setB h 22 B) := c_copy (n := 22) (n' := 11) hY H oY G1.1 (by omega)
  have F1 : FoI (setB h 22 B) := iF.st (i := 0) (by omega) G1.1
  have T1 : Fr (fun j => 20 ≤ j ∧ j < 46) h (setB h 22 B) := fr_setB hY.lt (fun j a b => by omega)
  have H1 : BdH (setB h 22 B) 22 B := bdH_set hY.lt
  generalize setB h 22 B = g1 at cp F1 T1 H1
  obtain ⟨g2, s1, F2, H2, T2, -⟩ := c_root (left := a.toNat) (N := 57) (by omega) (by omega) G1 (by omega) F1 H1
  have T12 := T1.tr T2
  obtain ⟨g4, s2, F4, T4⟩ := c_gift27 (N := 57) (D := a.toNat) (by omega) (by omega) G1 (by omega) (2 * B.w).toNat (val a.toNat B) (-1) 0 (9, 0) g2 F2 (H.fr T12 (fun j a b => by omega)) (by omega) (by omega) (Int.le_refl _)
  have T := T12.tr T4
  rw [ea] at s1 s2
  have bg : cal 58 m_Fo_bestGift [(103, 20), (100, 11), (0, a)] h = some (gif B a.toNat (2 * B.w).toNat (val a.toNat B) (-1) 0, g4) := by
    rw [k_Fo_bestGift]
    simp only [iF.r0, r0, cp, s1, Option.bind_some]
    exact s2
  have hm2 : g4[108]? = some (7, hM le pl be to va br un ke la ma) := by rw [T.g _ (by omega)]; exact hm
  have e92 : g4[109]? = some (20, row C) := by rw [T.g _ (by omega)]; exact e9
  have W2 := iW.fr T (by omega) (by omega) (fun j a b => by omega) (by omega) (by omega)
  obtain ⟨s, S, ys⟩ := ws_of hm2 e92 G2.1 W2
  have M := S.mn ys
  have q1 : rdr 7 g4 108 0 = some 109 := M.now
  have q2 : rda 20 g4 109 1 = some C.t := M.rt
  obtain ⟨g5, s5, l1, S5, ys5, -, T5⟩ := m_looksAhead (n0 := 53) (D := a.toNat) (by omega) (by omega) G2 (by rw [E.2.2.2.2.1]; omega) S ys
  have N2 : ∀ j, ¬ (j = 108 ∨ j = 109 ∨ (116 ≤ j ∧ j < 121)) → ¬ W0 j := fun j z => z
  rw [ea] at l1
  have l1 : cal 58 m_Mo_looksAhead [(107, 108), (0, a)] g4 = some (if C.t = 0 then val a.toNat C else -(val a.toNat C), g5) := l1
  obtain ⟨xs, x15, l15⟩ := W2.2.1.fr T5 (N2 _ (by omega))
  have as1 : cal 58 m_Mo_asides [(107, 108)] g5 = some (0, g5.set 115 (20, row C)) := m_asides S5.h (by rw [← ys5]; exact S5.y) G2.1 x15 l15
  have T6 : Fr (fun j => j = 115) g5 (g5.set 115 (20, row C)) := fr_set rfl
  have e156 : (g5.set 115 (20, row C))[115]? = some (20, row C) := getS (gtl x15)
  have S6 : WS (g5.set 115 (20, row C)) (le, pl, be, to, va, br, un, ke, ma) s5 := ⟨by rw [getN (by omega)]; exact S5.h, by rw [getN (by omega)]; exact S5.y, by rw [getN (by omega)]; exact S5.r, by rw [getN (by omega)]; exact S5.o, by rw [getN (by omega)]; exact S5.l, by rw [getN (by omega)]; exact S5.i, by rw [getN (by omega)]; exact S5.n, S5.ly, S5.lr, S5.lo, S5.ll, S5.lI, S5.ln⟩
  generalize g5.set 115 (20, row C) = g6 at as1 T6 e156 S6
  obtain ⟨g7, s7, b1, S7, ys7, e157, T7⟩ := m_gift48 (D := a.toNat) rfl (by omega) (by omega) G2 (by rw [E.2.2.2.2.1]; omega) (2 * C.w).toNat (val a.toNat C) (-1) 0 (9, 0) g6 s5 S6 ys5 e156 (by omega) (by rw [E.1]; omega)
  rw [ea, gif_eq E G1 G2 (by omega) _ _ _ _ (by omega) (by rw [E.1]; omega), val_eq _ _ _ E G1 G2 (by omega), E.1] at b1
  have vr := val_r a.toNat C G2 (by rw [E.2.2.2.2.1]; omega)
  rw [← val_eq _ _ _ E G1 G2 (by omega)] at b1
  have TT : Fr W5 g4 g7 := ((T5.wd (Q := W5) (fun j z => by unfold W0 at z; unfold W5; omega)).tr (T6.wd (fun j z => by unfold W5; omega))).tr T7
  have N5 : ∀ j, ¬ (j = 108 ∨ j = 109 ∨ j = 115 ∨ (116 ≤ j ∧ j < 121)) → ¬ W5 j := fun j z => z
  refine ⟨gif B a.toNat (2 * B.w).toNat (val a.toNat C) (-1) 0, g4, g7, ?_, by rw [T.g _ (by omega)]; exact hs, ?_, ?_⟩
  · rw [val_eq _ _ _ E G1 G2 (by omega), k_Ss_gift]
    simp only [c1, iS.r7, iS.r2, bg, Option.bind_some]
    rfl
  · rw [k_Mo_gift]
    simp only [m1, q1, q2, l1, as1, Option.bind_some]
    rw [if_neg (by decide)]
    rcases t01 with x | x
    · rw [if_pos x] at b1
      rw [if_pos x, if_pos x, mul_id (by omega) (by omega), Int.one_mul]
      exact b1
    · rw [if_neg (by omega)] at b1
      rw [if_neg (by omega), if_neg (by omega), mul_id (by omega) (by omega), show -1 * -(val a.toNat C) = val a.toNat C by omega]
      exact b1
  · exact inv_fo (B := B) (C := C) hl hs ho iS iT iP iK iX iI iB ((T.wd (fun j z => by omega)).tr (TT.wd (fun j z => by unfold W5 at z; omega))) ⟨pl, be, to, va, br, s7.la, S7.h⟩ ⟨(H.fr T (fun j a b => by omega)).fr TT (fun j a b => N5 j (by omega)), by rw [← ys7]; exact S7.y, p⟩ (F4.fr TT (fun j a b => N5 j (by omega))) (wo_of W2 TT (N5 _ (by omega)) ⟨row C, e157, row_len G2.1⟩ (N5 _ (by omega)) (N5 _ (by omega)) (N5 _ (by omega)) S7)
end OPS
