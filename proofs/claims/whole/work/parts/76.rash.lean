/-! Rash moves. -/
def rhF (B : Bo) : Nat → Int → Int → Int → Int
  | 0, _, f, _ => f
  | k + 1, m, f, c => if B.go c = true ∧ m < brg B c then rhF B k (brg B c) c (c + 1) else rhF B k m f (c + 1)
def rh (B : Bo) : Int := rhF B (2 * B.w).toNat (-1) (-1) 0
def rbF : Nat → Bo → Bo
  | 0, B => B
  | k + 1, B => if rh B = -1 then B else rbF k (sow B (rh B))
def rdn : Nat → Bo → Int
  | 0, _ => 0
  | k + 1, B => if rh B = -1 then 0 else rdn k (sow B (rh B)) + 1
section RM
variable {B C : Bo}
theorem rhF_r : ∀ (k : Nat) (m f c : Int), (f = -1 ∨ (0 ≤ f ∧ f < 2 * B.w)) → 0 ≤ c → c + (k : Int) = 2 * B.w → rhF B k m f c = -1 ∨ (0 ≤ rhF B k m f c ∧ rhF B k m f c < 2 * B.w) := by
  intro k
  induction k with
  | zero => intro m f c hf _ _; exact hf
  | succ k ih =>
    intro m f c hf h0 h1
    unfold rhF
    split
    · exact ih _ _ _ (Or.inr ⟨h0, by omega⟩) (by omega) (by omega)
    · exact ih _ _ _ hf (by omega) (by omega)
theorem rh_r (O : BoOK B) : rh B = -1 ∨ (0 ≤ rh B ∧ rh B < 2 * B.w) := by
  have := O.w2
  exact rhF_r _ _ _ _ (Or.inl rfl) (by omega) (by omega)
theorem brg_r (G : GB B) {i : Int} (h0 : 0 ≤ i) (h1 : i < 2 * B.w) : 0 ≤ brg B i ∧ brg B i ≤ 495 := by
  have hb := G.bb (s := B.t)
  obtain ⟨-, -, c1, c2⟩ := sowC_ok G.1 (by omega) h0 h1
  unfold brg
  omega
theorem rhF_some : ∀ (k : Nat) (m f c : Int), f ≠ -1 → 0 ≤ c → rhF B k m f c ≠ -1 := by
  intro k
  induction k with
  | zero => intro m f c hf _; exact hf
  | succ k ih =>
    intro m f c hf h0
    unfold rhF
    split
    · exact ih _ _ _ (by omega) (by omega)
    · exact ih _ _ _ hf (by omega)
theorem rhF_none (G : GB B) : ∀ (k : Nat) (c : Int), 0 ≤ c → c + (k : Int) = 2 * B.w → (rhF B k (-1) (-1) c = -1 ↔ ∀ j : Int, c ≤ j → j < 2 * B.w → B.go j = false) := by
  intro k
  induction k with
  | zero => intro c h0 h1; exact ⟨fun _ j a b => by omega, fun _ => rfl⟩
  | succ k ih =>
    intro c h0 h1
    have hb := brg_r G h0 (by omega)
    unfold rhF
    by_cases g : B.go c = true
    · rw [if_pos ⟨g, by omega⟩]
      exact ⟨fun z => absurd z (rhF_some _ _ _ _ (by omega) (by omega)), fun z => by rw [z c (by omega) (by omega)] at g; cases g⟩
    · rw [if_neg (fun z => g z.1), ih (c + 1) (by omega) (by omega)]
      constructor
      · intro z j a b
        by_cases e : j = c
        · rw [e]; exact Bool.not_eq_true _ ▸ g
        · exact z j (by omega) b
      · intro z j a b; exact z j (by omega) b
theorem rh_none (G : GB B) : rh B = -1 ↔ ∀ j : Int, 0 ≤ j → j < 2 * B.w → B.go j = false := by
  have := G.1.w2
  exact rhF_none G _ _ (by omega) (by omega)
theorem EqB.rhFE (E : EqB B C) (G : GB B) (G' : GB C) : ∀ (k : Nat) (m f c : Int), 0 ≤ c → c + (k : Int) = 2 * B.w → rhF C k m f c = rhF B k m f c := by
  intro k
  induction k with
  | zero => intro m f c _ _; rfl
  | succ k ih =>
    intro m f c h0 h1
    have hb := G.bb (s := B.t)
    have e := (E.sow' G.1 G'.1 (by omega) h0 (by omega)).2
    show (if C.go c = true ∧ m < brg C c then rhF C k (brg C c) c (c + 1) else rhF C k m f (c + 1)) = if B.go c = true ∧ m < brg B c then rhF B k (brg B c) c (c + 1) else rhF B k m f (c + 1)
    rw [E.go h0 (by omega), e, ih _ _ _ (by omega) (by omega), ih _ _ _ (by omega) (by omega)]
theorem EqB.rhE (E : EqB B C) (G : GB B) (G' : GB C) : rh C = rh B := by
  have := G.1.w2
  unfold rh
  rw [E.1]
  exact E.rhFE G G' _ _ _ _ (by omega) (by omega)
theorem rb_ok : ∀ (k : Nat) (B : Bo), GB B → B.m + (k : Int) ≤ 1100 → GB (rbF k B) ∧ (rbF k B).m = B.m + rdn k B ∧ 0 ≤ rdn k B ∧ rdn k B ≤ (k : Int) := by
  intro k
  induction k with
  | zero => intro B G _; exact ⟨G, by show B.m = B.m + 0; omega, Int.le_refl _, Int.le_refl _⟩
  | succ k ih =>
    intro B G hm
    unfold rbF rdn
    rcases rh_r G.1 with e | ⟨e0, e1⟩
    · rw [if_pos e, if_pos e]; exact ⟨G, by omega, by omega, by omega⟩
    · rw [if_neg (by omega), if_neg (by omega)]
      have mm : (sow B (rh B)).m = B.m + 1 := rfl
      obtain ⟨a, b, c, d⟩ := ih (sow B (rh B)) (G.sw (by omega) e0 e1) (by rw [mm]; omega)
      exact ⟨a, by rw [b, mm]; omega, by omega, by omega⟩
theorem rb_eq : ∀ (k : Nat) (B C : Bo), EqB B C → GB B → GB C → B.m + (k : Int) ≤ 1100 → EqB (rbF k B) (rbF k C) ∧ rdn k C = rdn k B := by
  intro k
  induction k with
  | zero => intro B C E _ _ _; exact ⟨E, rfl⟩
  | succ k ih =>
    intro B C E G G' hm
    unfold rbF rdn
    rw [E.rhE G G']
    rcases rh_r G.1 with e | ⟨e0, e1⟩
    · rw [if_pos e, if_pos e, if_pos e, if_pos e]; exact ⟨E, rfl⟩
    · rw [if_neg (by omega), if_neg (by omega), if_neg (by omega), if_neg (by omega)]
      have mm : (sow B (rh B)).m = B.m + 1 := rfl
      have hb := G.bb (s := B.t)
      obtain ⟨x, y⟩ := ih (sow B (rh B)) (sow C (rh B)) (E.sow' G.1 G'.1 (by omega) e0 e1).1 (G.sw (by omega) e0 e1) (G'.sw (by rw [E.2.2.2.2.1]; omega) e0 (by rw [E.1]; exact e1)) (by rw [mm]; omega)
      exact ⟨x, by rw [y]⟩
end RM
section CR
variable {d : Nat} {X : Bo}
theorem c_rh6 (G : GB X) (hm : X.m < 1100) : ∀ (k : Nat) (m f c : Int) (v : AV) (g : AH), FoI g → BdH g 22 X → 0 ≤ c → c + (k : Int) = 2 * X.w → ∃ g' : AH, run (d + 6) m_Fo_rashHouse 6 [(103, 20), (0, m), (0, f), (0, c), v] [] g = some (rhF X k m f c, g') ∧ FoI g' ∧ BdH g' 22 X ∧ Fr (fun j => 26 ≤ j ∧ j < 30) g g' := by
  have O := G.ok
  have w5 := O.w5
  intro k
  induction k with
  | zero =>
    intro m f c v g F H h0 h1
    have r0 : rdar 24 g 21 0 = some 22 := F.rd (by omega) (by omega)
    have ch : cal (d + 5) m_Bd_houses [(100, 22)] g = some (2 * X.w, g) := c_houses (n := 22) H O
    refine ⟨g, ?_, F, H, Fr.rf⟩
    rw [k_Fo_rashHouse_6]
    simp only [F.r0, r0, ch, Option.bind_some]
    rw [if_neg (by omega)]
    rfl
  | succ k ih =>
    intro m f c v g F H h0 h1
    have r0 : ∀ g : AH, FoI g → rdar 24 g 21 0 = some 22 := fun g F => F.rd (by omega) (by omega)
    have r1 : ∀ g : AH, FoI g → rdar 24 g 21 1 = some 26 := fun g F => F.rd (by omega) (by omega)
    have ch : cal (d + 5) m_Bd_houses [(100, 22)] g = some (2 * X.w, g) := c_houses (n := 22) H O
    have cg : cal (d + 5) m_Bd_goes [(100, 22), (0, c)] g = some (bI (X.go c), g) := c_bGoes (n := 22) H O h0 (by omega)
    rw [k_Fo_rashHouse_6]
    simp only [F.r0, r0 g F, ch, cg, Option.bind_some]
    rw [if_pos (by omega), add_id (by omega) (by omega)]
    cases hg : X.go c with
    | false =>
      obtain ⟨g', a, b, e, f'⟩ := ih m f (c + 1) v g F H (by omega) (by omega)
      refine ⟨g', ?_, b, e, f'⟩
      show _ = some (if X.go c = true ∧ m < brg X c then _ else rhF X k m f (c + 1), g')
      rw [hg, if_pos (show bI false = 0 from rfl), if_neg (fun z => by cases z.1)]
      exact a
    | true =>
      obtain ⟨D, hD, oD⟩ := F.2.2 1 (by omega)
      have hD : BdH g 26 D := hD
      have hl := hD.lt
      have hb := G.bb (s := X.t)
      have cp : cal (d + 5) m_Bd_copy [(100, 26), (100, 22)] g = some (0, setB g 26 X) := c_copy (n := 26) (n' := 22) hD H oD O (by omega)
      have F1 : FoI (setB g 26 X) := F.st (i := 1) (by omega) O
      have so : cal (d + 5) m_Bd_sow [(100, 26), (0, c)] (setB g 26 X) = some (brg X c, setB (setB g 26 X) 26 (sow X c)) := c_sow (n := 26) (bdH_set hl) O (by omega) h0 (by omega)
      rw [setB_setB hl] at so
      have F2 : FoI (setB g 26 (sow X c)) := F.st (i := 1) (by omega) (G.sw hm h0 (by omega)).ok
      have H2 : BdH (setB g 26 (sow X c)) 22 X := bdH_ne hl H (by omega)
      have T : Fr (fun j => 26 ≤ j ∧ j < 30) g (setB g 26 (sow X c)) := fr_setB hl (fun j a b => by omega)
      rw [if_neg (show ¬ bI true = 0 by decide)]
      simp only [r1 g F, cp, F1.r0, r1 _ F1, so, Option.bind_some]
      generalize setB g 26 (sow X c) = g2 at F2 H2 T
      by_cases z : m < brg X c
      · obtain ⟨g', a, b, e, f'⟩ := ih (brg X c) c (c + 1) (0, brg X c) g2 F2 H2 (by omega) (by omega)
        refine ⟨g', ?_, b, e, T.tr f'⟩
        show _ = some (if X.go c = true ∧ m < brg X c then rhF X k (brg X c) c (c + 1) else _, g')
        rw [if_pos z, if_pos ⟨hg, z⟩]
        exact a
      · obtain ⟨g', a, b, e, f'⟩ := ih m f (c + 1) (0, brg X c) g2 F2 H2 (by omega) (by omega)
        refine ⟨g', ?_, b, e, T.tr f'⟩
        show _ = some (if X.go c = true ∧ m < brg X c then _ else rhF X k m f (c + 1), g')
        rw [if_neg z, if_neg (fun y => z y.2)]
        exact a
theorem c_rb12 {N : Int} (N0 : N ≤ 60) : ∀ (k : Nat) (X : Bo) (c : Int) (v : AV) (g : AH), GB X → X.m + (k : Int) ≤ 1100 → FoI g → BdH g 22 X → 0 ≤ c → c + (k : Int) = N → ∃ g' : AH, run (d + 8) m_Fo_rashBoard 12 [(103, 20), (100, 11), (0, N), (0, c), v] [] g = some (22, g') ∧ FoI g' ∧ BdH g' 22 (rbF k X) ∧ Fr (fun j => 22 ≤ j ∧ j < 30) g g' := by
  have r0 : ∀ g : AH, FoI g → rdar 24 g 21 0 = some 22 := fun g F => F.rd (by omega) (by omega)
  intro k
  induction k with
  | zero =>
    intro X c v g G hm F H h0 h1
    refine ⟨g, ?_, F, H, Fr.rf⟩
    rw [k_Fo_rashBoard_12, if_neg (by omega)]
    simp only [F.r0, r0 g F, Option.bind_some]
  | succ k ih =>
    intro X c v g G hm F H h0 h1
    have w2 := G.1.w2
    obtain ⟨g1, a1, F1, H1, T1⟩ := c_rh6 (d := d + 1) G (by omega) (2 * X.w).toNat (-1) (-1) 0 (9, 0) g F H (by omega) (by omega)
    have a2 : cal (d + 7) m_Fo_rashHouse [(103, 20)] g = some (rh X, g1) := by rw [k_Fo_rashHouse]; exact a1
    rw [k_Fo_rashBoard_12, if_pos (by omega)]
    simp only [a2, F1.r0, r0 g1 F1, Option.bind_some]
    show ∃ g' : AH, _ ∧ FoI g' ∧ BdH g' 22 (if rh X = -1 then X else rbF k (sow X (rh X))) ∧ _
    rcases rh_r G.1 with e | ⟨e0, e1⟩
    · rw [if_pos e, if_pos e]
      exact ⟨g1, rfl, F1, H1, T1.wd (fun j z => by omega)⟩
    · have hb := G.bb (s := X.t)
      have so : cal (d + 7) m_Bd_sow [(100, 22), (0, rh X)] g1 = some (brg X (rh X), setB g1 22 (sow X (rh X))) := c_sow (n := 22) H1 G.1 (by omega) e0 e1
      rw [if_neg (by omega), if_neg (by omega), so]
      have G2 := G.sw (show X.m < 1100 by omega) e0 e1
      have mm : (sow X (rh X)).m = X.m + 1 := rfl
      obtain ⟨g', a, b, e, f⟩ := ih (sow X (rh X)) (c + 1) (0, rh X) (setB g1 22 (sow X (rh X))) G2 (by rw [mm]; omega) (F1.st (i := 0) (by omega) G2.1) (bdH_set H1.lt) (by omega) (by omega)
      refine ⟨g', ?_, b, e, ((T1.wd (fun j z => by omega)).tr (fr_setB H1.lt (fun j a b => by omega))).tr f⟩
      rw [Option.bind_some, add_id (by omega) (by omega)]
      exact a
end CR
section MR
variable {d : Nat} {le pl be to va br un ke ma : Int}
theorem m_rh6 {g : AH} {X : Bo} {la : Int} (G : GB X) (hm : g[108]? = some (7, hM le pl be to va br un ke la ma)) (e9 : g[109]? = some (20, row X)) (h16 : 116 < g.length) : ∀ (k : Nat) (m f c : Int) (v : AV) (R : List Int), R.length = 175 → -1 ≤ m → 0 ≤ c → c + (k : Int) = 2 * X.w → ∃ R' : List Int, R'.length = 175 ∧ run (d + 6) m_Mo_rashOne 6 [(107, 108), (0, f), (0, m), (0, c), v] [] (g.set 116 (20, R)) = some (rhF X k m f c, g.set 116 (20, R')) := by
  have O := G.ok
  have w5 := O.w5
  have w2 := O.w2
  have S : ∀ R : List Int, (g.set 116 (20, R))[108]? = some (7, hM le pl be to va br un ke la ma) ∧ (g.set 116 (20, R))[109]? = some (20, row X) ∧ (g.set 116 (20, R))[116]? = some (20, R) := fun R => ⟨by rw [getN (by omega)]; exact hm, by rw [getN (by omega)]; exact e9, getS h16⟩
  intro k
  induction k with
  | zero =>
    intro m f c v R lR m0 h0 h1
    have M := MnH.of (S R).1 (S R).2.1
    have r1 : rdr 7 (g.set 116 (20, R)) 108 0 = some 109 := M.now
    have r2 : rda 20 (g.set 116 (20, R)) 109 0 = some X.w := M.rw0
    refine ⟨R, lR, ?_⟩
    rw [k_Mo_rashOne_6, r1, Option.bind_some, r2, Option.bind_some, mul_id (by omega) (by omega), if_neg (by omega)]
    rfl
  | succ k ih =>
    intro m f c v R lR m0 h0 h1
    have M := MnH.of (S R).1 (S R).2.1
    have r1 : rdr 7 (g.set 116 (20, R)) 108 0 = some 109 := M.now
    have r2 : rda 20 (g.set 116 (20, R)) 109 0 = some X.w := M.rw0
    have cg : cal (d + 5) m_Mo_canGo [(107, 108), (0, c)] (g.set 116 (20, R)) = some (bI (X.go c), g.set 116 (20, R)) := m_canGo (q := 108) M O h0 (by omega)
    obtain ⟨R1, l1, wb⟩ := m_wouldBring (d := d) (S R).1 (S R).2.1 G (S R).2.2 lR h0 (show c < 2 * X.w by omega)
    rw [List.set_set] at wb
    rw [k_Mo_rashOne_6, r1, Option.bind_some, r2, Option.bind_some, mul_id (by omega) (by omega), if_pos (by omega), cg, Option.bind_some, add_id (by omega) (by omega)]
    cases hg : X.go c with
    | false =>
      obtain ⟨R', a, b⟩ := ih m f (c + 1) (0, -1) R lR m0 (by omega) (by omega)
      refine ⟨R', a, ?_⟩
      show _ = some (if X.go c = true ∧ m < brg X c then _ else rhF X k m f (c + 1), _)
      rw [hg, if_pos (show bI false = 0 from rfl), if_neg (by omega), if_neg (by omega), if_neg (fun z => by cases z.1)]
      exact b
    | true =>
      rw [if_neg (show ¬ bI true = 0 by decide)]
      have hb := brg_r G h0 (show c < 2 * X.w by omega)
      by_cases z : m < brg X c
      · obtain ⟨R', a, b⟩ := ih (brg X c) c (c + 1) (0, brg X c) R1 l1 (by omega) (by omega) (by omega)
        refine ⟨R', a, ?_⟩
        show (cal (d + 5) m_Mo_wouldBring [(107, 108), (0, c)] (g.set 116 (20, R))).bind _ = some (if X.go c = true ∧ m < brg X c then rhF X k (brg X c) c (c + 1) else _, _)
        rw [wb, Option.bind_some, if_pos z, if_pos z, if_pos ⟨hg, z⟩]
        exact b
      · obtain ⟨R', a, b⟩ := ih m f (c + 1) (0, brg X c) R1 l1 m0 (by omega) (by omega)
        refine ⟨R', a, ?_⟩
        show (cal (d + 5) m_Mo_wouldBring [(107, 108), (0, c)] (g.set 116 (20, R))).bind _ = some (if X.go c = true ∧ m < brg X c then _ else rhF X k m f (c + 1), _)
        rw [wb, Option.bind_some, if_neg z, if_neg z, if_neg (fun y => z y.2)]
        exact b
theorem m_rashOne {g : AH} {X : Bo} {la : Int} {R : List Int} (G : GB X) (hm : g[108]? = some (7, hM le pl be to va br un ke la ma)) (e9 : g[109]? = some (20, row X)) (e16 : g[116]? = some (20, R)) (lR : R.length = 175) : ∃ R' : List Int, R'.length = 175 ∧ cal (d + 6) m_Mo_rashOne [(107, 108)] g = some (rh X, g.set 116 (20, R')) := by
  have w2 := G.1.w2
  obtain ⟨R', a, b⟩ := m_rh6 (d := d) G hm e9 (gtl e16) (2 * X.w).toNat (-1) (-1) 0 (9, 0) R lR (by omega) (by omega) (by omega)
  rw [set_same e16] at b
  exact ⟨R', a, by rw [k_Mo_rashOne]; exact b⟩
theorem m_rs7 {N : Int} (N0 : N ≤ 61) : ∀ (k : Nat) (X : Bo) (c : Int) (g : AH) (la : Int) (R : List Int), GB X → X.m + (k : Int) ≤ 1100 → g[108]? = some (7, hM le pl be to va br un ke la ma) → g[109]? = some (20, row X) → g[116]? = some (20, R) → R.length = 175 → 0 ≤ c → c + (k : Int) = N → ∃ (g' : AH) (la' : Int) (R' : List Int), run (d + 7) m_Mo_rashOnes 7 [(107, 108), (0, N), (0, c), (0, rh X)] [] g = some (c + rdn k X, g') ∧ g'[108]? = some (7, hM le pl be to va br un ke la' ma) ∧ g'[109]? = some (20, row (rbF k X)) ∧ g'[116]? = some (20, R') ∧ R'.length = 175 ∧ Fr (fun j => j = 108 ∨ j = 109 ∨ j = 116) g g' := by
  intro k
  induction k with
  | zero =>
    intro X c g la R G hm hh e9 e16 lR h0 h1
    refine ⟨g, la, R, ?_, hh, e9, e16, lR, Fr.rf⟩
    rw [k_Mo_rashOnes_7, if_neg (by omega)]
    show some (c, g) = some (c + 0, g)
    rw [Int.add_zero]
  | succ k ih =>
    intro X c g la R G hm hh e9 e16 lR h0 h1
    rw [k_Mo_rashOnes_7, if_pos (by omega)]
    unfold rdn rbF
    rcases rh_r G.1 with e | ⟨e0, e1⟩
    · rw [if_pos e, if_pos e, if_pos e]
      exact ⟨g, la, R, by rw [Int.add_zero], hh, e9, e16, lR, Fr.rf⟩
    · rw [if_neg (by omega), if_neg (by omega), if_neg (by omega)]
      have go : cal (d + 6) m_Mo_goes [(107, 108), (0, rh X)] g = some (brg X (rh X), setN g 108 (sow X (rh X))) := m_goes (q := 108) (MnH.of hh e9) G.1 G.bb e0 e1
      have T1 : Fr (fun j => j = 109) g (setN g 108 (sow X (rh X))) := fr_set rfl
      have e92 : (setN g 108 (sow X (rh X)))[109]? = some (20, row (sow X (rh X))) := getS (gtl e9)
      generalize setN g 108 (sow X (rh X)) = g1 at go T1 e92
      have hh1 : g1[108]? = some (7, hM le pl be to va br un ke la ma) := by rw [T1.g _ (by omega)]; exact hh
      have nt : cal (d + 6) m_Mo_noted [(107, 108), (0, brg X (rh X))] g1 = some (0, g1.set 108 (7, hM le pl be to va br un ke (brg X (rh X)) ma)) := by
        rw [k_Mo_noted, hmw hh1 (by simp [hM]) _]; rfl
      have T2 : Fr (fun j => j = 108) g1 (g1.set 108 (7, hM le pl be to va br un ke (brg X (rh X)) ma)) := fr_set rfl
      have hh2 : (g1.set 108 (7, hM le pl be to va br un ke (brg X (rh X)) ma))[108]? = some (7, hM le pl be to va br un ke (brg X (rh X)) ma) := getS (gtl hh1)
      generalize g1.set 108 (7, hM le pl be to va br un ke (brg X (rh X)) ma) = g2 at nt T2 hh2
      have e93 : g2[109]? = some (20, row (sow X (rh X))) := by rw [T2.g _ (by omega)]; exact e92
      have e163 : g2[116]? = some (20, R) := by rw [T2.g _ (by omega), T1.g _ (by omega)]; exact e16
      have G2 := G.sw (show X.m < 1100 by omega) e0 e1
      have mm : (sow X (rh X)).m = X.m + 1 := rfl
      obtain ⟨R1, l1, ro⟩ := m_rashOne (d := d) G2 hh2 e93 e163 lR
      have T3 : Fr (fun j => j = 116) g2 (g2.set 116 (20, R1)) := fr_set rfl
      have e164 : (g2.set 116 (20, R1))[116]? = some (20, R1) := getS (gtl e163)
      generalize g2.set 116 (20, R1) = g3 at ro T3 e164
      obtain ⟨g', la', R', x1, x2, x3, x4, x5, x6⟩ := ih (sow X (rh X)) (c + 1) g3 (brg X (rh X)) R1 G2 (by rw [mm]; omega) (by rw [T3.g _ (by omega)]; exact hh2) (by rw [T3.g _ (by omega)]; exact e93) e164 l1 (by omega) (by omega)
      refine ⟨g', la', R', ?_, x2, x3, x4, x5, (((T1.wd (fun j z => by omega)).tr (T2.wd (fun j z => by omega))).tr (T3.wd (fun j z => by omega))).tr x6⟩
      simp only [go, nt, ro, Option.bind_some]
      rw [add_id (by omega) (by omega), x1]
      congr 2
      omega
end MR
