/-! The class's best, line and gift. -/
theorem c_search {d : Nat} : ∀ (left dep : Nat) (X : Bo) (least most : Int) (g : AH), dep + left ≤ 5 → GB X → X.m + (left : Int) ≤ 1100 → FoI g → BdH g (22 + 4 * dep) X → -1000000 ≤ least → least < most → most ≤ 1000000 → SrcOK d left dep X least most g (cal (d + left + 7) m_Fo_search [(103, 20), (0, (dep : Int)), (0, (left : Int)), (0, least), (0, most)] g) := by
  intro left
  induction left with
  | zero =>
    intro dep X least most g hd G hm F H l0 lm m1
    have r0 : rdar 24 g 21 (dep : Int) = some ((22 + 4 * dep : Nat) : Int) := by
      have := F.rd (i := (dep : Int)) (by omega) (by omega)
      rw [Int.toNat_natCast] at this
      exact this
    have lx := ld_r G
    obtain ⟨g', a1, a2, a3, a4, a5⟩ := c_sfin (d := d + 0 + 5) (b := 0) (hs := -1) F H G.1 (by omega)
    refine ⟨ld X, g', ?_, AB.rf, lx.1, lx.2, a2, a3, a4.wd (fun j z => Or.inr z), fun z _ _ => a5 z⟩
    rw [k_Fo_search]
    simp only [F.r0, r0, Option.bind_some]
    rw [if_neg (by omega)]
    simp only [if_pos] at a1
    exact a1
  | succ left ih =>
    intro dep X least most g hd G hm F H l0 lm m1
    have w2 := G.1.w2
    have r0 : rdar 24 g 21 (dep : Int) = some ((22 + 4 * dep : Nat) : Int) := by
      have := F.rd (i := (dep : Int)) (by omega) (by omega)
      rw [Int.toNat_natCast] at this
      exact this
    have r1 : rdar 24 g 21 ((dep : Int) + 1) = some ((22 + 4 * (dep + 1) : Nat) : Int) := by
      have := F.rd (i := (dep : Int) + 1) (by omega) (by omega)
      rw [show ((dep : Int) + 1).toNat = dep + 1 by omega] at this
      exact this
    obtain ⟨r, g', q1, q2, q3, q4, q5, q6, q7, q8⟩ := c_search37 (d := d) (left := left) (dep := dep) (X := X) (least := least) (most := most) hd G hm l0 lm m1 (fun Y a b g x1 x2 x3 x4 x5 x6 x7 => ih (dep + 1) Y a b g (by omega) x1 x2 x3 x4 x5 x6 x7) (2 * X.w).toNat 0 (-1000000) (-1) (-1000000) (-1) (9, 0) g F H (by omega) (by omega) (fun _ => by omega) (fun z => by omega) (fun z => by omega) Iff.rfl (fun _ => ⟨rfl, rfl⟩) (fun _ _ => ⟨rfl, rfl⟩) (by omega) (fun z => absurd rfl z) (fun _ => by omega)
    refine ⟨r, g', ?_, q2, q3, q4, q5, q6, q7, q8⟩
    rw [k_Fo_search]
    simp only [F.r0, r0, Option.bind_some]
    rw [if_pos (by omega), if_pos (by omega), add_id (by omega) (by omega), r1, Option.bind_some]
    exact q1
theorem c_root {left N : Nat} {X : Bo} {g : AH} (h5 : left ≤ 5) (hN : left + 7 ≤ N) (G : GB X) (hm : X.m + (left : Int) ≤ 1100) (F : FoI g) (H : BdH g 22 X) : ∃ g' : AH, cal N m_Fo_search [(103, 20), (0, 0), (0, (left : Int)), (0, -1000000), (0, 1000000)] g = some (val left X, g') ∧ FoI g' ∧ BdH g' 22 X ∧ Fr (fun j => 20 ≤ j ∧ j < 46) g g' ∧ g'[20]? = some (3, [21, hou left X]) := by
  obtain ⟨r, g', q1, q2, q3, q4, q5, q6, q7, q8⟩ := c_search (d := N - (left + 7)) left 0 X (-1000000) 1000000 g (by omega) G hm F H (by omega) (by omega) (by omega)
  have vr := val_r left X G hm
  have e : r = val left X := q2.2.2 (by omega) (by omega)
  rw [show N - (left + 7) + left + 7 = N by omega, e] at q1
  exact ⟨g', q1, q5, q6, q7.wd (fun j z => by omega), q8 rfl rfl rfl⟩
def lin : Nat → Bo → Nat → Int
  | 0, _, _ => -1
  | l + 1, X, 0 => hou (l + 1) X
  | l + 1, X, k + 1 => if hou (l + 1) X = -1 then -1 else lin l (sow X (hou (l + 1) X)) k
theorem lin_eq : ∀ (l : Nat) (B C : Bo) (k : Nat), EqB B C → GB B → GB C → B.m + (l : Int) ≤ 1100 → lin l C k = lin l B k := by
  intro l
  induction l with
  | zero => intro B C k _ _ _ _; rfl
  | succ l ih =>
    intro B C k E G G' hm
    have hb := G.bb (s := B.t)
    cases k with
    | zero => exact hou_eq (l + 1) E G G' hm
    | succ k =>
      show (if hou (l + 1) C = -1 then -1 else lin l (sow C (hou (l + 1) C)) k) = if hou (l + 1) B = -1 then -1 else lin l (sow B (hou (l + 1) B)) k
      rw [hou_eq (l + 1) E G G' hm]
      rcases hou_r (l + 1) B G with e | ⟨e0, e1, -⟩
      · rw [if_pos e, if_pos e]
      · have mm : (sow B (hou (l + 1) B)).m = B.m + 1 := rfl
        rw [if_neg (by omega), if_neg (by omega), ih _ _ k (E.sow' G.1 G'.1 (by omega) e0 e1).1 (G.sw (by omega) e0 e1) (G'.sw (by rw [E.2.2.2.2.1]; omega) e0 (by rw [E.1]; exact e1)) (by rw [mm]; omega)]
section LINE
variable {N : Nat}
theorem c_line13 {D k : Int} (hD : D ≤ 5) (k4 : k ≤ 4) (hN : 12 ≤ N) : ∀ (l kk : Nat) (n : Int) (X : Bo) (g : AH), GB X → X.m + (l : Int) ≤ 1100 → FoI g → BdH g 22 X → 0 ≤ n → n + (l : Int) = D → n + (kk : Int) = k → ∃ g' : AH, run (N + 1) m_Fo_lineMove 13 [(103, 20), (100, 11), (0, D), (0, k), (0, n)] [] g = some (lin l X kk, g') ∧ FoI g' ∧ Fr (fun j => 20 ≤ j ∧ j < 46) g g' := by
  intro l
  induction l with
  | zero =>
    intro kk n X g G hm F H n0 e1 e2
    exact ⟨g, by rw [k_Fo_lineMove_13, if_neg (by omega)]; rfl, F, Fr.rf⟩
  | succ l ih =>
    intro kk n X g G hm F H n0 e1 e2
    obtain ⟨g1, a1, F1, H1, T1, c1⟩ := c_root (left := l + 1) (N := N) (by omega) (by omega) G hm F H
    have rc : rdf 3 g1 20 1 = some (hou (l + 1) X) := rdf_n (n := 20) c1 1
    have r0 : rdar 24 g1 21 0 = some 22 := F1.rd (by omega) (by omega)
    rw [show ((l + 1 : Nat) : Int) = D - n by omega] at a1
    have E : run (N + 1) m_Fo_lineMove 13 [(103, 20), (100, 11), (0, D), (0, k), (0, n)] [] g = if n = k then some (hou (l + 1) X, g1) else if hou (l + 1) X = -1 then some (hou (l + 1) X, g1) else (cal N m_Bd_sow [(100, 22), (0, hou (l + 1) X)] g1).bind (fun q8 => run (N + 1) m_Fo_lineMove 13 [(103, 20), (100, 11), (0, D), (0, k), (0, a_add n 1)] [] q8.2) := by
      rw [k_Fo_lineMove_13, if_pos (by omega), if_neg (by omega), sub_id (by omega) (by omega)]
      simp only [a1, rc, F1.r0, r0, Option.bind_some]
    rw [E]
    cases kk with
    | zero => rw [if_pos (by omega)]; exact ⟨g1, rfl, F1, T1⟩
    | succ kk =>
      rw [if_neg (by omega)]
      show ∃ g' : AH, _ = some (if hou (l + 1) X = -1 then -1 else lin l (sow X (hou (l + 1) X)) kk, g') ∧ _
      rcases hou_r (l + 1) X G with e | ⟨e0, e1', -⟩
      · rw [if_pos e, if_pos e, e]; exact ⟨g1, rfl, F1, T1⟩
      · have hb := G.bb (s := X.t)
        have mm : (sow X (hou (l + 1) X)).m = X.m + 1 := rfl
        have GS := G.sw (show X.m < 1100 by omega) e0 e1'
        have so : cal N m_Bd_sow [(100, 22), (0, hou (l + 1) X)] g1 = some (brg X (hou (l + 1) X), setB g1 22 (sow X (hou (l + 1) X))) := by
          have := c_sow (d := N - 5) (n := 22) H1 G.1 (by omega) e0 e1'
          rw [show N - 5 + 5 = N by omega] at this
          exact this
        obtain ⟨g', b1, b2, b3⟩ := ih kk (n + 1) (sow X (hou (l + 1) X)) (setB g1 22 (sow X (hou (l + 1) X))) GS (by rw [mm]; omega) (F1.st (i := 0) (by omega) GS.1) (bdH_set H1.lt) (by omega) (by omega) (by omega)
        rw [if_neg (by omega), if_neg (by omega), so, Option.bind_some, add_id (by omega) (by omega)]
        exact ⟨g', b1, b2, (T1.tr (fr_setB H1.lt (fun j a b => by omega))).tr b3⟩
end LINE
def gif (B : Bo) (D : Nat) : Nat → Int → Int → Int → Int
  | 0, _, f, _ => f
  | n + 1, m, f, c => if (sd B.w c = B.t ∧ B.si c < 99) ∧ m < val D (B.setS c (B.si c + 1)) then gif B D n (val D (B.setS c (B.si c + 1))) c (c + 1) else gif B D n m f (c + 1)
theorem setS_self {B : Bo} (O : BoOK B) {c : Int} (c0 : 0 ≤ c) (c1 : c < 10) : B.setS c (B.si c) = B := by
  have e : B.ss.set c.toNat (B.si c) = B.ss := by
    apply List.ext_getElem?
    intro j
    rw [List.getElem?_set]
    have := O.sl
    by_cases z : c.toNat = j
    · rw [if_pos z, if_pos (by omega), ← z]
      exact (getD_some (by omega)).symm
    · rw [if_neg z]
  unfold Bo.setS
  rw [e]
  rfl
theorem GB.setS {B : Bo} (G : GB B) {i v : Int} (v0 : 0 ≤ v) (v1 : v ≤ 99) : GB (B.setS i v) := ⟨ok_setS G.1 v0 v1, G.2⟩
theorem c_gift27 {N : Nat} {D : Nat} {B : Bo} (hD : D ≤ 4) (hN : 12 ≤ N) (G : GB B) (hm : B.m + (D : Int) ≤ 1100) : ∀ (n : Nat) (m f c : Int) (v : AV) (g : AH), FoI g → BdH g 11 B → 0 ≤ c → c + (n : Int) = 2 * B.w → val D B ≤ m → ∃ g' : AH, run (N + 1) m_Fo_bestGift 27 [(103, 20), (100, 11), (0, (D : Int)), (0, m), (0, f), (0, c), v] [] g = some (gif B D n m f c, g') ∧ FoI g' ∧ Fr (fun j => 20 ≤ j ∧ j < 46) g g' := by
  have O := G.ok
  have w5 := O.w5
  obtain ⟨d, rfl⟩ : ∃ d, N = d + 5 := ⟨N - 5, by omega⟩
  intro n
  induction n with
  | zero =>
    intro m f c v g F H c0 cn vm
    have ch : cal (d + 5) m_Bd_houses [(100, 11)] g = some (2 * B.w, g) := c_houses (n := 11) H O
    refine ⟨g, ?_, F, Fr.rf⟩
    rw [k_Fo_bestGift_27, ch, Option.bind_some, if_neg (by show ¬ c < 2 * B.w; omega)]
    rfl
  | succ n ih =>
    intro m f c v g F H c0 cn vm
    have ch : cal (d + 5) m_Bd_houses [(100, 11)] g = some (2 * B.w, g) := c_houses (n := 11) H O
    have cs : cal (d + 5) m_Bd_sideOf [(100, 11), (0, c)] g = some (sd B.w c, g) := c_sideOf (n := 11) H c
    have ct : cal (d + 5) m_Bd_turn [(100, 11)] g = some (B.t, g) := c_turn (n := 11) H
    have si := si_r O c0 (show c < 10 by omega)
    show ∃ g' : AH, _ = some (if (sd B.w c = B.t ∧ B.si c < 99) ∧ m < val D (B.setS c (B.si c + 1)) then gif B D n (val D (B.setS c (B.si c + 1))) c (c + 1) else gif B D n m f (c + 1), g') ∧ _
    by_cases z : sd B.w c = B.t
    · obtain ⟨Y, hY, oY⟩ := F.2.2 0 (by omega)
      have hY : BdH g 22 Y := hY
      have hl := hY.lt
      have r0 : rdar 24 g 21 0 = some 22 := F.rd (by omega) (by omega)
      have cp : cal (d + 5) m_Bd_copy [(100, 22), (100, 11)] g = some (0, setB g 22 B) := c_copy (n := 22) (n' := 11) hY H oY O (by omega)
      have F1 : FoI (setB g 22 B) := F.st (i := 0) (by omega) O
      have r1 : rdar 24 (setB g 22 B) 21 0 = some 22 := F1.rd (by omega) (by omega)
      have gv : cal (d + 5) m_Bd_give [(100, 22), (0, c), (0, 1)] (setB g 22 B) = some (0, setB (setB g 22 B) 22 (B.setS c (if 99 < B.si c + 1 then 99 else B.si c + 1))) := c_give (n := 22) (bdH_set hl) O c0 (by omega) (by omega) (by omega)
      rw [setB_setB hl] at gv
      have G2 : GB (B.setS c (if 99 < B.si c + 1 then 99 else B.si c + 1)) := G.setS (by split <;> omega) (by split <;> omega)
      have F2 : FoI (setB g 22 (B.setS c (if 99 < B.si c + 1 then 99 else B.si c + 1))) := F.st (i := 0) (by omega) G2.1
      obtain ⟨g1, a1, F3, H3, T3, -⟩ := c_root (left := D) (N := d + 5) (by omega) (by omega) G2 hm F2 (bdH_set hl)
      have T : Fr (fun j => 20 ≤ j ∧ j < 46) g g1 := (fr_setB hl (fun j a b => by omega)).tr T3
      have H1 : BdH g1 11 B := H.fr T (fun j a b => by omega)
      have E : run (d + 5 + 1) m_Fo_bestGift 27 [(103, 20), (100, 11), (0, (D : Int)), (0, m), (0, f), (0, c), v] [] g = if m < val D (B.setS c (if 99 < B.si c + 1 then 99 else B.si c + 1)) then run (d + 5 + 1) m_Fo_bestGift 27 [(103, 20), (100, 11), (0, (D : Int)), (0, val D (B.setS c (if 99 < B.si c + 1 then 99 else B.si c + 1))), (0, c), (0, c + 1), (0, val D (B.setS c (if 99 < B.si c + 1 then 99 else B.si c + 1)))] [] g1 else run (d + 5 + 1) m_Fo_bestGift 27 [(103, 20), (100, 11), (0, (D : Int)), (0, m), (0, f), (0, c + 1), (0, val D (B.setS c (if 99 < B.si c + 1 then 99 else B.si c + 1)))] [] g1 := by
        rw [k_Fo_bestGift_27]
        simp only [ch, cs, ct, F.r0, r0, cp, F1.r0, r1, gv, a1, Option.bind_some]
        rw [if_pos (by omega), if_pos z, add_id (by omega) (by omega)]
      rw [E]
      by_cases s99 : B.si c < 99
      · rw [if_neg (show ¬ 99 < B.si c + 1 by omega)]
        by_cases y : m < val D (B.setS c (B.si c + 1))
        · rw [if_pos y, if_pos ⟨⟨z, s99⟩, y⟩]
          obtain ⟨g', b1, b2, b3⟩ := ih (val D (B.setS c (B.si c + 1))) c (c + 1) (0, val D (B.setS c (B.si c + 1))) g1 F3 H1 (by omega) (by omega) (by omega)
          exact ⟨g', b1, b2, T.tr b3⟩
        · rw [if_neg y, if_neg (fun x => y x.2)]
          obtain ⟨g', b1, b2, b3⟩ := ih m f (c + 1) (0, val D (B.setS c (B.si c + 1))) g1 F3 H1 (by omega) (by omega) vm
          exact ⟨g', b1, b2, T.tr b3⟩
      · have e99 : B.setS c (if 99 < B.si c + 1 then 99 else B.si c + 1) = B := by
          rw [if_pos (by omega), show (99 : Int) = B.si c by omega]
          exact setS_self O c0 (by omega)
        rw [e99, if_neg (by omega), if_neg (fun x => s99 x.1.2)]
        obtain ⟨g', b1, b2, b3⟩ := ih m f (c + 1) (0, val D B) g1 F3 H1 (by omega) (by omega) vm
        exact ⟨g', b1, b2, T.tr b3⟩
    · obtain ⟨g', b1, b2, b3⟩ := ih m f (c + 1) v g F H (by omega) (by omega) vm
      refine ⟨g', ?_, b2, b3⟩
      rw [if_neg (fun x => z x.1.1), k_Fo_bestGift_27]
      simp only [ch, cs, ct, Option.bind_some]
      rw [if_pos (by omega), if_neg z, add_id (by omega) (by omega)]
      exact b1
