/-! Undone, kept, laid back. -/
theorem PaI.dn {h : AH} {un u : Int} (H : PaI h un) (u0 : 0 ≤ u) (u1 : u ≤ un) : PaI h u := by
  obtain ⟨a, b, ps, P, C, R, x1, x2, x3, x4, x5, x6, x7⟩ := H
  exact ⟨u0, by omega, ps, P, C, R, x1, x2, x3, x4, x5, x6, fun i hi => x7 i (by omega)⟩
section LOOPS
variable {h : AH} {d : Nat} {le pl be to va br un ke la ma : Int} {C : Bo} {R : List Int}
theorem m_undo22 (hm : h[108]? = some (7, hM le pl be to va br un ke la ma)) (eR : h[113]? = some (20, R)) (hR : R.length = 200) (u0 : 0 ≤ un) (u1 : un < 8) (hl : 109 < h.length) : ∀ (k c : Nat) (ys : List Int), ys.length = 25 → c + k = 25 → run (d + 1) m_Mo_undo 22 [(107, 108), (0, (c : Int))] [] (h.set 109 (20, ys)) = run (d + 1) m_Mo_undo 22 [(107, 108), (0, 25)] [] (h.set 109 (20, cpN R (25 * un.toNat) 0 k c ys)) := by
  intro k
  induction k with
  | zero => intro c ys _ e; rw [show c = 25 by omega]; rfl
  | succ k ih =>
    intro c ys hy e
    have hm' : (h.set 109 (20, ys))[108]? = some (7, hM le pl be to va br un ke la ma) := by rw [getN (by omega)]; exact hm
    have r1 : rdr 7 (h.set 109 (20, ys)) 108 0 = some 109 := hmr hm' rfl (by omega)
    have r2 : rdr 7 (h.set 109 (20, ys)) 108 10 = some 113 := hmr hm' rfl (by omega)
    have r3 : rdf 7 (h.set 109 (20, ys)) 108 11 = some un := hmf hm' rfl
    have r4 : rda 20 (h.set 109 (20, ys)) 113 (25 * un + (c : Int)) = some (R.getD (25 * un + (c : Int)).toNat 0) := rdA (n := 113) (xs := R) (by rw [getN (by omega)]; exact eR) (by omega) (by omega)
    have r5 : ∀ v : Int, wra 20 (h.set 109 (20, ys)) 109 (c : Int) v = some ((h.set 109 (20, ys)).set 109 (20, ys.set (c : Int).toNat v)) := fun v => wra_i (n := 109) (getS hl) (by omega) (by omega) v
    rw [k_Mo_undo_22, if_pos (by omega), r1, Option.bind_some, r2, Option.bind_some, r3, Option.bind_some, mul_id (by omega) (by omega), add_id (x := 25 * un) (by omega) (by omega), r4, Option.bind_some, r5, Option.bind_some, List.set_set, add_id (by omega) (by omega), show (25 * un + (c : Int)).toNat = 25 * un.toNat + c by omega, Int.toNat_natCast]
    show _ = run (d + 1) m_Mo_undo 22 [(107, 108), (0, 25)] [] (h.set 109 (20, cpN R (25 * un.toNat) 0 k (c + 1) (ys.set (0 + c) (R.getD (25 * un.toNat + c) 0))))
    rw [Nat.zero_add]
    exact ih (c + 1) _ (by rw [List.length_set]; exact hy) (by omega)
theorem m_back29 {x : Int} (hm : h[108]? = some (7, hM le pl be to va br un ke la ma)) (eR : h[114]? = some (20, R)) (hR : R.length = 50) (x0 : 0 ≤ x) (x1 : x < 2) (hl : 109 < h.length) : ∀ (k c : Nat) (ys : List Int), ys.length = 25 → c + k = 25 → run (d + 1) m_Mo_back 29 [(107, 108), (0, x), (0, (c : Int))] [] (h.set 109 (20, ys)) = run (d + 1) m_Mo_back 29 [(107, 108), (0, x), (0, 25)] [] (h.set 109 (20, cpN R (25 * x.toNat) 0 k c ys)) := by
  intro k
  induction k with
  | zero => intro c ys _ e; rw [show c = 25 by omega]; rfl
  | succ k ih =>
    intro c ys hy e
    have hm' : (h.set 109 (20, ys))[108]? = some (7, hM le pl be to va br un ke la ma) := by rw [getN (by omega)]; exact hm
    have r1 : rdr 7 (h.set 109 (20, ys)) 108 0 = some 109 := hmr hm' rfl (by omega)
    have r2 : rdr 7 (h.set 109 (20, ys)) 108 12 = some 114 := hmr hm' rfl (by omega)
    have r4 : rda 20 (h.set 109 (20, ys)) 114 (25 * x + (c : Int)) = some (R.getD (25 * x + (c : Int)).toNat 0) := rdA (n := 114) (xs := R) (by rw [getN (by omega)]; exact eR) (by omega) (by omega)
    have r5 : ∀ v : Int, wra 20 (h.set 109 (20, ys)) 109 (c : Int) v = some ((h.set 109 (20, ys)).set 109 (20, ys.set (c : Int).toNat v)) := fun v => wra_i (n := 109) (getS hl) (by omega) (by omega) v
    rw [k_Mo_back_29, if_pos (by omega), r1, Option.bind_some, r2, Option.bind_some, mul_id (by omega) (by omega), add_id (x := 25 * x) (by omega) (by omega), r4, Option.bind_some, r5, Option.bind_some, List.set_set, add_id (by omega) (by omega), show (25 * x + (c : Int)).toNat = 25 * x.toNat + c by omega, Int.toNat_natCast]
    show _ = run (d + 1) m_Mo_back 29 [(107, 108), (0, x), (0, 25)] [] (h.set 109 (20, cpN R (25 * x.toNat) 0 k (c + 1) (ys.set (0 + c) (R.getD (25 * x.toNat + c) 0))))
    rw [Nat.zero_add]
    exact ih (c + 1) _ (by rw [List.length_set]; exact hy) (by omega)
theorem m_keep15 {x : Int} (hm : h[108]? = some (7, hM le pl be to va br un ke la ma)) (e9 : h[109]? = some (20, row C)) (OC : BoOK C) (x0 : 0 ≤ x) (x1 : x < 2) (hl : 114 < h.length) : ∀ (k c : Nat) (ys : List Int), ys.length = 50 → c + k = 25 → run (d + 1) m_Mo_keep 15 [(107, 108), (0, x), (0, (c : Int))] [] (h.set 114 (20, ys)) = run (d + 1) m_Mo_keep 15 [(107, 108), (0, x), (0, 25)] [] (h.set 114 (20, cpN (row C) 0 (25 * x.toNat) k c ys)) := by
  intro k
  induction k with
  | zero => intro c ys _ e; rw [show c = 25 by omega]; rfl
  | succ k ih =>
    intro c ys hy e
    have hm' : (h.set 114 (20, ys))[108]? = some (7, hM le pl be to va br un ke la ma) := by rw [getN (by omega)]; exact hm
    have r1 : rdr 7 (h.set 114 (20, ys)) 108 0 = some 109 := hmr hm' rfl (by omega)
    have r2 : rdr 7 (h.set 114 (20, ys)) 108 12 = some 114 := hmr hm' rfl (by omega)
    have r4 : rda 20 (h.set 114 (20, ys)) 109 (c : Int) = some ((row C).getD (c : Int).toNat 0) := rdA (n := 109) (xs := row C) (by rw [getN (by omega)]; exact e9) (by omega) (by rw [row_len OC]; omega)
    have r5 : ∀ v : Int, wra 20 (h.set 114 (20, ys)) 114 (25 * x + (c : Int)) v = some ((h.set 114 (20, ys)).set 114 (20, ys.set (25 * x + (c : Int)).toNat v)) := fun v => wra_i (n := 114) (getS hl) (by omega) (by omega) v
    rw [k_Mo_keep_15, if_pos (by omega), r2, Option.bind_some, r1, Option.bind_some, r4, Option.bind_some, mul_id (by omega) (by omega), add_id (x := 25 * x) (by omega) (by omega), r5, Option.bind_some, List.set_set, add_id (by omega) (by omega), show (25 * x + (c : Int)).toNat = 25 * x.toNat + c by omega, Int.toNat_natCast]
    show _ = run (d + 1) m_Mo_keep 15 [(107, 108), (0, x), (0, 25)] [] (h.set 114 (20, cpN (row C) 0 (25 * x.toNat) k (c + 1) (ys.set (25 * x.toNat + c) ((row C).getD (0 + c) 0))))
    rw [Nat.zero_add]
    exact ih (c + 1) _ (by rw [List.length_set]; exact hy) (by omega)
end LOOPS
section OPS
variable {scr : List Int}
theorem op_undo : Op scr m_Ss_undo m_Mo_undo [] := by
  intro h I
  obtain ⟨hl, hs, ho, le, un, ke, ma, B, C, iS, ⟨pl, be, to, va, br, la, hm⟩, ⟨H, e9, p⟩, iT, iP, iK, iX, iF, iW, iI, iB⟩ := id I
  have O := p.1.ok
  obtain ⟨u0, u1, ps, P, CC, A, M⟩ := iP.sp
  obtain ⟨R, eR, hR, M⟩ := M
  have ru : rdf 7 h 108 11 = some un := hmf hm rfl
  by_cases hu : 0 < un
  · have q := A.2.1 (un - 1).toNat (by omega)
    have Hp := A.2.2.2.2 (un - 1).toNat (by omega)
    obtain ⟨p2, aR⟩ := M (un - 1).toNat (by omega)
    generalize hP : P (un - 1).toNat = B2 at Hp p2
    generalize hC : CC (un - 1).toNat = C2 at p2 aR
    have s1 := iS.st (un - 1)
    have F0 : Fr (fun j => j = 2) h (h.set 2 (6, [3, 7, 11, 15, 16, 17, 18, 20, 46, 51, un - 1])) := fr_set rfl
    have A1 := A.fr F0 (by omega) (fun j a b => by omega) u1
    have H1 := H.fr F0 (fun j a b => by omega)
    have Hp1 := Hp.fr F0 (fun j a b => by omega)
    have hl1 := H1.lt
    have rd := A1.rd (i := un - 1) (by omega) (by omega)
    generalize hg : h.set 2 (6, [3, 7, 11, 15, 16, 17, 18, 20, 46, 51, un - 1]) = g at s1 F0 A1 H1 Hp1 hl1 rd
    have cp : cal 58 m_Bd_copy [(100, 11), (100, (ps (un - 1).toNat : Int))] g = some (0, setB g 11 B2) := c_copy (n := 11) (n' := ps (un - 1).toNat) H1 Hp1 O p2.1.ok (by omega)
    have s2 : SsI (setB g 11 B2) (un - 1) := s1.fr (P := fun j => 11 ≤ j ∧ j < 15) (fr_setB hl1 (fun j a b => by omega)) (by omega)
    have G : ∀ j, j ≠ 2 → (j < 11 ∨ 15 ≤ j) → (setB g 11 B2)[j]? = h[j]? := fun j z y => by rw [setB_ne hl1 (by omega), F0.g j z]
    have hm2 : (setB g 11 B2)[108]? = some (7, hM le pl be to va br un ke la ma) := by rw [G _ (by omega) (by omega)]; exact hm
    have hl2 := gtl hm2
    have hm3 : ((setB g 11 B2).set 108 (7, hM le pl be to va br (un - 1) ke la ma))[108]? = some (7, hM le pl be to va br (un - 1) ke la ma) := getS hl2
    have e93 : ((setB g 11 B2).set 108 (7, hM le pl be to va br (un - 1) ke la ma))[109]? = some (20, row C) := by rw [getN (by omega), G _ (by omega) (by omega)]; exact e9
    have eR3 : ((setB g 11 B2).set 108 (7, hM le pl be to va br (un - 1) ke la ma))[113]? = some (20, R) := by rw [getN (by omega), G _ (by omega) (by omega)]; exact eR
    have z := m_undo22 (d := 58) hm3 eR3 hR (by omega) (by omega) (gtl e93) 25 0 (row C) (row_len p.2.1.ok) (by omega)
    rw [set_same e93, cp_row aR (row_len p2.2.1.ok) (row_len p.2.1.ok)] at z
    have hm4 : (((setB g 11 B2).set 108 (7, hM le pl be to va br (un - 1) ke la ma)).set 109 (20, row C2))[108]? = some (7, hM le pl be to va br (un - 1) ke la ma) := by rw [getN (by omega)]; exact hm3
    have ru4 : rdf 7 (((setB g 11 B2).set 108 (7, hM le pl be to va br (un - 1) ke la ma)).set 109 (20, row C2)) 108 11 = some (un - 1) := hmf hm4 rfl
    have F1 : Fr TB h (setB g 11 B2) := (F0.wd (fun j z => Or.inl z)).tr (fr_setB hl1 (fun j a b => by omega))
    have F2 : Fr (fun j => j = 108 ∨ j = 109) (setB g 11 B2) (((setB g 11 B2).set 108 (7, hM le pl be to va br (un - 1) ke la ma)).set 109 (20, row C2)) := (fr_set (Or.inl rfl)).tr (fr_set (Or.inr rfl))
    have PA : PaI h (un - 1) := iP.dn (by omega) (by omega)
    refine ⟨un - 1, setB g 11 B2, ((setB g 11 B2).set 108 (7, hM le pl be to va br (un - 1) ke la ma)).set 109 (20, row C2), ?_, by rw [G _ (by omega) (by omega)]; exact hs, ?_, ?_⟩
    · have wu := iS.wu (un - 1)
      rw [hg] at wu
      rw [k_Ss_undo, iS.ru, Option.bind_some, if_pos hu, Option.bind_some, sub_id (by omega) (by omega), wu]
      simp only [s1.r2, s1.r3, s1.ru, rd, cp, s2.ru, Option.bind_some]
    · rw [k_Mo_undo]
      have r1 : rdf 7 (setB g 11 B2) 108 11 = some un := hmf hm2 rfl
      rw [r1, Option.bind_some, if_neg (by omega), Option.bind_some, sub_id (by omega) (by omega), hmw hm2 (by simp [hM]) (un - 1), Option.bind_some]
      refine z.trans ?_
      rw [k_Mo_undo_22, if_neg (by omega), ru4, Option.bind_some]
    · refine inv_bo (B := B2) (C := C2) hl hs ho iT iK iX iF iW iI iB (F1.tr (F2.wd (fun j z => by unfold TB; omega))) (s2.fr F2 (by omega)) ⟨pl, be, to, va, br, la, hm4⟩ ⟨(bdH_set hl1).fr F2 (fun j a b => by omega), getS (by rw [List.length_set]; exact gtl (by rw [G 109 (by omega) (by omega)]; exact e9)), p2⟩ ((PA.fr F0 (by omega) (by omega) (fun j a b => by omega)).fr ((fr_setB (P := fun j => (11 ≤ j ∧ j < 15) ∨ j = 108 ∨ j = 109) hl1 (fun j a b => by omega)).tr (F2.wd (fun j z => by omega))) (by omega) (by omega) (fun j a b => by omega))
  · refine ⟨-4, h, h, ?_, hs, ?_, I⟩
    · rw [k_Ss_undo, iS.ru, Option.bind_some, if_neg hu]
    · rw [k_Mo_undo, ru, Option.bind_some, if_pos (by omega)]
theorem ke_or (k0 k1 x : Int) (a : k0 = 0 ∨ k0 = 1) (b : k1 = 0 ∨ k1 = 1) (c : x = 0 ∨ x = 1) : a_or (k0 + 2 * k1) (a_shl 1 x) = (if x = 0 then 1 + 2 * k1 else k0 + 2) := by
  rw [a_or_def, a_shl_def]
  rcases a with rfl | rfl <;> rcases b with rfl | rfl <;> rcases c with rfl | rfl <;> decide
theorem ke_bit (k0 k1 x : Int) (a : k0 = 0 ∨ k0 = 1) (b : k1 = 0 ∨ k1 = 1) (c : x = 0 ∨ x = 1) : (a_and (a_shr (k0 + 2 * k1) x) 1 = 0) ↔ ((if x = 0 then k0 else k1) = 0) := by
  rw [a_and_def, a_shr_def]
  rcases a with rfl | rfl <;> rcases b with rfl | rfl <;> rcases c with rfl | rfl <;> decide
theorem op_keep (x : Int) : Op scr m_Ss_keep m_Mo_keep [(0, x)] := by
  intro h I
  obtain ⟨hl, hs, ho, le, un, ke, ma, B, C, iS, ⟨pl, be, to, va, br, la, hm⟩, iN, iT, iP, iK, iX, iF, iW, iI, iB⟩ := id I
  obtain ⟨H, e9, p⟩ := id iN
  have O := p.1.ok
  have E := p.2.2.2
  have c1 : cal 58 m_Ss_isWithin [(0, x), (0, 0), (0, 1)] h = some (bI (decide (0 ≤ x ∧ x ≤ 1)), h) := c_within x 0 1
  by_cases hx : 0 ≤ x ∧ x ≤ 1
  · rw [bI_t hx] at c1
    obtain ⟨k0, k1, K0, K1, C0, C1, R, y1, y2, y3, y4, y5, y6, y7, y8, y9, y10, y11, y12, y13⟩ := iK
    have rd : rdar 24 h 16 x = some (100 + 4 * x) := by
      refine rdar_n (n := 16) y1 hx.1 ?_ (by omega)
      rcases (show x = 0 ∨ x = 1 by omega) with rfl | rfl <;> rfl
    obtain ⟨K, HK, OK⟩ : ∃ K : Bo, BdH h (100 + 4 * x.toNat) K ∧ BoOK K := by
      rcases (show x = 0 ∨ x = 1 by omega) with rfl | rfl
      · exact ⟨K0, y3, y5⟩
      · exact ⟨K1, y4, y6⟩
    have hlK := HK.lt
    have cp : cal 58 m_Bd_copy [(100, 100 + 4 * x), (100, 11)] h = some (0, setB h (100 + 4 * x.toNat) B) := by
      have := c_copy (d := 57) (n := 100 + 4 * x.toNat) (n' := 11) HK H OK O (by omega)
      rw [show ((100 + 4 * x.toNat : Nat) : Int) = 100 + 4 * x by omega] at this
      exact this
    have F1 : Fr (fun j => 100 ≤ j ∧ j < 108) h (setB h (100 + 4 * x.toNat) B) := fr_setB hlK (fun j a b => by omega)
    have s1 := iS.fr F1 (by omega)
    have y2' : (setB h (100 + 4 * x.toNat) B)[17]? = some (21, [k0, k1]) := by rw [F1.g _ (by omega)]; exact y2
    have w1 : wrab 21 (setB h (100 + 4 * x.toNat) B) 17 x 1 = some ((setB h (100 + 4 * x.toNat) B).set 17 (21, [k0, k1].set x.toNat 1)) := by
      unfold wrab
      rw [if_pos (Or.inr rfl)]
      exact wra_i (n := 17) y2' hx.1 (by simp; omega) 1
    have F2 : Fr (fun j => (100 ≤ j ∧ j < 108) ∨ j = 17) h ((setB h (100 + 4 * x.toNat) B).set 17 (21, [k0, k1].set x.toNat 1)) := (F1.wd (fun j z => Or.inl z)).tr (fr_set (Or.inr rfl))
    have HK2 : BdH ((setB h (100 + 4 * x.toNat) B).set 17 (21, [k0, k1].set x.toNat 1)) (100 + 4 * x.toNat) B := (bdH_set hlK).fr (P := fun j => j = 17) (fr_set rfl) (fun j a b => by omega)
    have HKo : ∀ (n : Nat) (D : Bo), BdH h n D → (n = 100 ∨ n = 104) → n ≠ 100 + 4 * x.toNat → BdH ((setB h (100 + 4 * x.toNat) B).set 17 (21, [k0, k1].set x.toNat 1)) n D := fun n D a b c => (bdH_ne hlK a (by omega)).fr (P := fun j => j = 17) (fr_set rfl) (fun j a b => by omega)
    have g17 : ((setB h (100 + 4 * x.toNat) B).set 17 (21, [k0, k1].set x.toNat 1))[17]? = some (21, [k0, k1].set x.toNat 1) := getS (gtl y2')
    generalize (setB h (100 + 4 * x.toNat) B).set 17 (21, [k0, k1].set x.toNat 1) = g at w1 F2 HK2 HKo g17
    have s2 := iS.fr F2 (by omega)
    have H2 := H.fr F2 (fun j a b => by omega)
    have mv : cal 58 m_Bd_moves [(100, 11)] g = some (B.m, g) := c_moves (n := 11) H2
    have hm2 : g[108]? = some (7, hM le pl be to va br un ke la ma) := by rw [F2.g _ (by omega)]; exact hm
    have e92 : g[109]? = some (20, row C) := by rw [F2.g _ (by omega)]; exact e9
    have eR2 : g[114]? = some (20, R) := by rw [F2.g _ (by omega)]; exact y7
    have z := m_keep15 (d := 58) (x := x) hm2 e92 p.2.1.ok hx.1 (by omega) (gtl eR2) 25 0 R y8 (by omega)
    rw [set_same eR2] at z
    have hm3 : (g.set 114 (20, cpN (row C) 0 (25 * x.toNat) 25 0 R))[108]? = some (7, hM le pl be to va br un ke la ma) := by rw [getN (by omega)]; exact hm2
    have m1 : cal 58 m_Mo_in [(2, x), (2, 0), (2, 1)] g = some (1, g) := by rw [m_in x 0 1, bI_t hx]
    have hm4 : ((g.set 114 (20, cpN (row C) 0 (25 * x.toNat) 25 0 R)).set 108 (7, hM le pl be to va br un (if x = 0 then 1 + 2 * k1 else k0 + 2) la ma))[108]? = some (7, hM le pl be to va br un (if x = 0 then 1 + 2 * k1 else k0 + 2) la ma) := getS (gtl hm3)
    have e94 : ((g.set 114 (20, cpN (row C) 0 (25 * x.toNat) 25 0 R)).set 108 (7, hM le pl be to va br un (if x = 0 then 1 + 2 * k1 else k0 + 2) la ma))[109]? = some (20, row C) := by rw [getN (by omega), getN (by omega)]; exact e92
    have F3 : Fr (fun j => j = 108 ∨ j = 114) g ((g.set 114 (20, cpN (row C) 0 (25 * x.toNat) 25 0 R)).set 108 (7, hM le pl be to va br un (if x = 0 then 1 + 2 * k1 else k0 + 2) la ma)) := (fr_set (Or.inr rfl)).tr (fr_set (Or.inl rfl))
    have gR : ((g.set 114 (20, cpN (row C) 0 (25 * x.toNat) 25 0 R)).set 108 (7, hM le pl be to va br un (if x = 0 then 1 + 2 * k1 else k0 + 2) la ma))[114]? = some (20, cpN (row C) 0 (25 * x.toNat) 25 0 R) := by rw [getN (by omega)]; exact getS (gtl eR2)
    have rm : rda 20 ((g.set 114 (20, cpN (row C) 0 (25 * x.toNat) 25 0 R)).set 108 (7, hM le pl be to va br un (if x = 0 then 1 + 2 * k1 else k0 + 2) la ma)) 109 4 = some B.m := by
      rw [← E.2.2.2.2.1]; exact (MnH.of hm4 e94).rm
    have rn : rdr 7 ((g.set 114 (20, cpN (row C) 0 (25 * x.toNat) 25 0 R)).set 108 (7, hM le pl be to va br un (if x = 0 then 1 + 2 * k1 else k0 + 2) la ma)) 108 0 = some 109 := hmr hm4 rfl (by omega)
    have rk : rdf 7 (g.set 114 (20, cpN (row C) 0 (25 * x.toNat) 25 0 R)) 108 13 = some ke := hmf hm3 rfl
    have eo := ke_or k0 k1 x y9 y10 (by omega)
    have wk : wrf 7 (g.set 114 (20, cpN (row C) 0 (25 * x.toNat) 25 0 R)) 108 13 (if x = 0 then 1 + 2 * k1 else k0 + 2) = some ((g.set 114 (20, cpN (row C) 0 (25 * x.toNat) 25 0 R)).set 108 (7, hM le pl be to va br un (if x = 0 then 1 + 2 * k1 else k0 + 2) la ma)) := hmw hm3 (by simp [hM]) _
    refine ⟨B.m, g, (g.set 114 (20, cpN (row C) 0 (25 * x.toNat) 25 0 R)).set 108 (7, hM le pl be to va br un (if x = 0 then 1 + 2 * k1 else k0 + 2) la ma), ?_, by rw [F2.g _ (by omega)]; exact hs, ?_, ?_⟩
    · rw [k_Ss_keep]
      simp only [c1, iS.r4, rd, iS.r2, cp, s1.r5, w1, s2.r2, mv, Option.bind_some]
      rfl
    · rw [k_Mo_keep, m1, Option.bind_some, if_neg (show ¬ (1 : Int) = 0 by decide)]
      refine z.trans ?_
      rw [k_Mo_keep_15, if_neg (by omega), rk, Option.bind_some, y11, eo, wk]
      simp only [rn, rm, Option.bind_some]
    · have T : Fr (fun j => (100 ≤ j ∧ j < 108) ∨ j = 17 ∨ j = 108 ∨ j = 114) h ((g.set 114 (20, cpN (row C) 0 (25 * x.toNat) 25 0 R)).set 108 (7, hM le pl be to va br un (if x = 0 then 1 + 2 * k1 else k0 + 2) la ma)) := (F2.wd (fun j z => by omega)).tr (F3.wd (fun j z => by omega))
      have HK3 := HK2.fr F3 (fun j a b => by omega)
      have HKo3 : ∀ (n : Nat) (D : Bo), BdH h n D → (n = 100 ∨ n = 104) → n ≠ 100 + 4 * x.toNat → BdH ((g.set 114 (20, cpN (row C) 0 (25 * x.toNat) 25 0 R)).set 108 (7, hM le pl be to va br un (if x = 0 then 1 + 2 * k1 else k0 + 2) la ma)) n D := fun n D a b c => (HKo n D a b c).fr F3 (fun j a b => by omega)
      have g17' : ((g.set 114 (20, cpN (row C) 0 (25 * x.toNat) 25 0 R)).set 108 (7, hM le pl be to va br un (if x = 0 then 1 + 2 * k1 else k0 + 2) la ma))[17]? = some (21, [k0, k1].set x.toNat 1) := by rw [F3.g _ (by omega)]; exact g17
      have y1' := T.g 16 (by omega)
      rw [y1] at y1'
      have lR : (cpN (row C) 0 (25 * x.toNat) 25 0 R).length = 50 := by rw [cpN_len]; exact y8
      have aN : At (cpN (row C) 0 (25 * x.toNat) 25 0 R) (25 * x.toNat) (row C) := At.sf.cp (row_len p.2.1.ok) (by omega)
      have aO : ∀ (o : Nat) (r : List Int), At R o r → (o + 25 ≤ 25 * x.toNat ∨ 25 * x.toNat + 25 ≤ o) → At (cpN (row C) 0 (25 * x.toNat) 25 0 R) o r := fun o r a b => a.ot b
      generalize hg2 : (g.set 114 (20, cpN (row C) 0 (25 * x.toNat) 25 0 R)).set 108 (7, hM le pl be to va br un (if x = 0 then 1 + 2 * k1 else k0 + 2) la ma) = g2 at hm4 e94 gR T HK3 HKo3 g17' y1'
      refine ⟨T.len.trans hl, by rw [T.g _ (by omega)]; exact hs, by rw [T.g _ (by omega)]; exact ho, le, un, (if x = 0 then 1 + 2 * k1 else k0 + 2), ma, B, C, iS.fr T (by omega), ⟨pl, be, to, va, br, la, hm4⟩, iN.fr T (fun j a b => by omega) (by omega), iT.fr T (fun j a b => by omega) (by omega), iP.fr T (by omega) (by omega) (fun j a b => by omega), ?_, iX.fr T (by omega) (by omega) (by omega), iF.fr T (fun j a b => by omega), iW.fr T (by omega) (by omega) (fun j a b => by omega) (by omega) (by omega), iI.fr T (fun j a b => by omega) (by omega), iB.fr T (fun j a b => by omega) (fun j a b => by omega)⟩
      rcases (show x = 0 ∨ x = 1 by omega) with rfl | rfl
      · exact ⟨1, k1, B, K1, C, C1, _, y1', g17', HK3, HKo3 104 K1 y4 (Or.inr rfl) (by decide), O, y6, gR, lR, Or.inr rfl, y10, rfl, fun _ => ⟨p, aN⟩, fun z => ⟨(y13 z).1, aO 25 _ (y13 z).2 (by decide)⟩⟩
      · exact ⟨k0, 1, K0, B, C0, C, _, y1', g17', HKo3 100 K0 y3 (Or.inl rfl) (by decide), HK3, y5, O, gR, lR, y9, Or.inr rfl, by simp, fun z => ⟨(y12 z).1, aO 0 _ (y12 z).2 (by decide)⟩, fun _ => ⟨p, aN⟩⟩
  · have m1 : cal 58 m_Mo_in [(2, x), (2, 0), (2, 1)] h = some (0, h) := by rw [m_in x 0 1, bI_f hx]
    rw [bI_f hx] at c1
    refine ⟨-2, h, h, ?_, hs, ?_, I⟩
    · rw [k_Ss_keep]
      simp only [c1, Option.bind_some]
      rfl
    · rw [k_Mo_keep]
      simp only [m1, Option.bind_some]
      rfl
theorem op_back (x : Int) : Op scr m_Ss_back m_Mo_back [(0, x)] := by
  intro h I
  obtain ⟨hl, hs, ho, le, un, ke, ma, B, C, iS, ⟨pl, be, to, va, br, la, hm⟩, iN, iT, iP, iK, iX, iF, iW, iI, iB⟩ := id I
  obtain ⟨H, e9, p⟩ := id iN
  have O := p.1.ok
  have c1 : cal 58 m_Ss_isWithin [(0, x), (0, 0), (0, 1)] h = some (bI (decide (0 ≤ x ∧ x ≤ 1)), h) := c_within x 0 1
  have m1 : ∀ g : AH, cal 58 m_Mo_in [(2, x), (2, 0), (2, 1)] g = some (bI (decide (0 ≤ x ∧ x ≤ 1)), g) := fun g => m_in x 0 1
  by_cases hx : 0 ≤ x ∧ x ≤ 1
  · rw [bI_t hx] at c1 m1
    obtain ⟨k0, k1, K0, K1, C0, C1, R, y1, y2, y3, y4, y5, y6, y7, y8, y9, y10, y11, y12, y13⟩ := id iK
    have kb := ke_bit k0 k1 x y9 y10 (by omega)
    rw [← y11] at kb
    have rb : rda 21 h 17 x = some (if x = 0 then k0 else k1) := by
      refine (rda_i (n := 17) y2 hx.1).trans ?_
      rcases (show x = 0 ∨ x = 1 by omega) with rfl | rfl <;> rfl
    by_cases hk : (if x = 0 then k0 else k1) = 0
    · refine ⟨-4, h, h, ?_, hs, ?_, I⟩
      · rw [k_Ss_back]
        simp only [c1, iS.r5, rb, hk, Option.bind_some]
        rfl
      · have rk : rdf 7 h 108 13 = some ke := hmf hm rfl
        rw [k_Mo_back, m1, Option.bind_some, if_neg (show ¬ (1 : Int) = 0 by decide), rk, Option.bind_some, if_pos (kb.mpr hk)]
    · obtain ⟨K, D, HK, pK, aK⟩ : ∃ K D : Bo, BdH h (100 + 4 * x.toNat) K ∧ Pr K D ∧ At R (25 * x.toNat) (row D) := by
        rcases (show x = 0 ∨ x = 1 by omega) with rfl | rfl
        · have : k0 = 1 := by rw [if_pos rfl] at hk; omega
          exact ⟨K0, C0, y3, (y12 this).1, (y12 this).2⟩
        · have : k1 = 1 := by rw [if_neg (by decide)] at hk; omega
          exact ⟨K1, C1, y4, (y13 this).1, (y13 this).2⟩
      have rd : rdar 24 h 16 x = some (100 + 4 * x) := by
        refine rdar_n (n := 16) y1 hx.1 ?_ (by omega)
        rcases (show x = 0 ∨ x = 1 by omega) with rfl | rfl <;> rfl
      have hl1 := H.lt
      have cp : cal 58 m_Bd_copy [(100, 11), (100, 100 + 4 * x)] h = some (0, setB h 11 K) := by
        have := c_copy (d := 57) (n := 11) (n' := 100 + 4 * x.toNat) H HK O pK.1.ok (by omega)
        rw [show ((100 + 4 * x.toNat : Nat) : Int) = 100 + 4 * x by omega] at this
        exact this
      have s1 : SsI (setB h 11 K) un := iS.fr (P := fun j => 11 ≤ j ∧ j < 15) (fr_setB hl1 (fun j a b => by omega)) (by omega)
      have s2 := s1.st 0
      have H2 : BdH ((setB h 11 K).set 2 (6, [3, 7, 11, 15, 16, 17, 18, 20, 46, 51, 0])) 11 K := (bdH_set hl1).fr (P := fun j => j = 2) (fr_set rfl) (fun j a b => by omega)
      have F1 : Fr (fun j => j = 2 ∨ (11 ≤ j ∧ j < 15)) h ((setB h 11 K).set 2 (6, [3, 7, 11, 15, 16, 17, 18, 20, 46, 51, 0])) := (fr_setB hl1 (fun j a b => Or.inr ⟨by omega, by omega⟩)).tr (fr_set (Or.inl rfl))
      have wu := s1.wu 0
      generalize (setB h 11 K).set 2 (6, [3, 7, 11, 15, 16, 17, 18, 20, 46, 51, 0]) = g at wu s2 H2 F1
      have mv : cal 58 m_Bd_moves [(100, 11)] g = some (K.m, g) := c_moves (n := 11) H2
      have hm2 : g[108]? = some (7, hM le pl be to va br un ke la ma) := by rw [F1.g _ (by omega)]; exact hm
      have e92 : g[109]? = some (20, row C) := by rw [F1.g _ (by omega)]; exact e9
      have eR2 : g[114]? = some (20, R) := by rw [F1.g _ (by omega)]; exact y7
      have z := m_back29 (d := 58) (x := x) hm2 eR2 y8 hx.1 (by omega) (gtl e92) 25 0 (row C) (row_len p.2.1.ok) (by omega)
      rw [set_same e92, cp_row aK (row_len pK.2.1.ok) (row_len p.2.1.ok)] at z
      have hm3 : (g.set 109 (20, row D))[108]? = some (7, hM le pl be to va br un ke la ma) := by rw [getN (by omega)]; exact hm2
      have hm4 : ((g.set 109 (20, row D)).set 108 (7, hM le pl be to va br 0 ke la ma))[108]? = some (7, hM le pl be to va br 0 ke la ma) := getS (gtl hm3)
      have e94 : ((g.set 109 (20, row D)).set 108 (7, hM le pl be to va br 0 ke la ma))[109]? = some (20, row D) := by rw [getN (by omega)]; exact getS (gtl e92)
      have F3 : Fr (fun j => j = 108 ∨ j = 109) g ((g.set 109 (20, row D)).set 108 (7, hM le pl be to va br 0 ke la ma)) := (fr_set (Or.inr rfl)).tr (fr_set (Or.inl rfl))
      have rm : rda 20 ((g.set 109 (20, row D)).set 108 (7, hM le pl be to va br 0 ke la ma)) 109 4 = some K.m := by
        rw [← pK.2.2.2.2.2.2.2.1]; exact (MnH.of hm4 e94).rm
      have rn : rdr 7 ((g.set 109 (20, row D)).set 108 (7, hM le pl be to va br 0 ke la ma)) 108 0 = some 109 := hmr hm4 rfl (by omega)
      have wk : wrf 7 (g.set 109 (20, row D)) 108 11 0 = some ((g.set 109 (20, row D)).set 108 (7, hM le pl be to va br 0 ke la ma)) := hmw hm3 (by simp [hM]) _
      have rk : rdf 7 g 108 13 = some ke := hmf hm2 rfl
      refine ⟨K.m, g, (g.set 109 (20, row D)).set 108 (7, hM le pl be to va br 0 ke la ma), ?_, by rw [F1.g _ (by omega)]; exact hs, ?_, ?_⟩
      · rw [k_Ss_back]
        simp only [c1, iS.r5, rb, hk, iS.r2, iS.r4, rd, cp, wu, s2.r2, mv, Option.bind_some]
        rfl
      · rw [k_Mo_back, m1, Option.bind_some, if_neg (show ¬ (1 : Int) = 0 by decide), rk, Option.bind_some, if_neg (fun z => hk (kb.mp z))]
        refine z.trans ?_
        rw [k_Mo_back_29, if_neg (by omega), wk]
        simp only [rn, rm, Option.bind_some]
      · have P0 : PaI h 0 := iP.dn (by omega) iP.1
        have T := (F1.wd (Q := fun j => j = 2 ∨ (11 ≤ j ∧ j < 15) ∨ j = 108 ∨ j = 109) (fun j z => by omega)).tr (F3.wd (fun j z => by omega))
        exact inv_bo (B := K) (C := D) hl hs ho iT iK iX iF iW iI iB (T.wd (fun j z => by unfold TB; omega)) (s2.fr F3 (by omega)) ⟨pl, be, to, va, br, la, hm4⟩ ⟨H2.fr F3 (fun j a b => by omega), e94, pK⟩ (P0.fr T (by omega) (by omega) (fun j a b => by omega))
  · rw [bI_f hx] at c1 m1
    refine ⟨-2, h, h, ?_, hs, ?_, I⟩
    · rw [k_Ss_back]
      simp only [c1, Option.bind_some]
      rfl
    · rw [k_Mo_back]
      simp only [m1, Option.bind_some]
      rfl
end OPS
