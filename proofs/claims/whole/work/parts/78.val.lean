/-! The best for some moves ahead. -/
def ld (B : Bo) : Int := if B.t = 0 then B.b0 - B.b1 else B.b1 - B.b0
def pick (go : Int → Bool) (f : Int → Int) : Nat → Int → Int → Int → Int × Int
  | 0, _, b, hs => (b, hs)
  | n + 1, c, b, hs => if go c = true ∧ b < f c then pick go f n (c + 1) (f c) c else pick go f n (c + 1) b hs
def val : Nat → Bo → Int
  | 0, B => ld B
  | k + 1, B => if (pick B.go (fun i => -(val k (sow B i))) (2 * B.w).toNat 0 (-1000000) (-1)).2 = -1 then ld B else (pick B.go (fun i => -(val k (sow B i))) (2 * B.w).toNat 0 (-1000000) (-1)).1
def hou : Nat → Bo → Int
  | 0, _ => -1
  | k + 1, B => (pick B.go (fun i => -(val k (sow B i))) (2 * B.w).toNat 0 (-1000000) (-1)).2
section VAL
variable {B C : Bo} {go : Int → Bool} {f : Int → Int}
theorem pick_some : ∀ (n : Nat) (c b hs : Int), hs ≠ -1 → 0 ≤ c → (pick go f n c b hs).2 ≠ -1 ∧ b ≤ (pick go f n c b hs).1 := by
  intro n
  induction n with
  | zero => intro c b hs h _; exact ⟨h, Int.le_refl _⟩
  | succ n ih =>
    intro c b hs h h0
    unfold pick
    by_cases z : go c = true ∧ b < f c
    · rw [if_pos z]
      have := ih (c + 1) (f c) c (by omega) (by omega)
      exact ⟨this.1, by omega⟩
    · rw [if_neg z]; exact ih _ _ _ h (by omega)
/-- what is picked is what was there, or a house that goes, with its number -/
theorem pick_r {N : Int} : ∀ (n : Nat) (c b hs : Int), 0 ≤ c → c + (n : Int) = N → ((pick go f n c b hs) = (b, hs)) ∨ (∃ j : Int, c ≤ j ∧ j < N ∧ go j = true ∧ pick go f n c b hs = (f j, j)) := by
  intro n
  induction n with
  | zero => intro c b hs _ _; exact Or.inl rfl
  | succ n ih =>
    intro c b hs h0 h1
    unfold pick
    by_cases z : go c = true ∧ b < f c
    · rw [if_pos z]
      rcases ih (c + 1) (f c) c (by omega) (by omega) with e | ⟨j, a1, a2, a3, a4⟩
      · exact Or.inr ⟨c, by omega, by omega, z.1, e⟩
      · exact Or.inr ⟨j, by omega, a2, a3, a4⟩
    · rw [if_neg z]
      rcases ih (c + 1) b hs (by omega) (by omega) with e | ⟨j, a1, a2, a3, a4⟩
      · exact Or.inl e
      · exact Or.inr ⟨j, by omega, a2, a3, a4⟩
theorem pick_eq {go' : Int → Bool} {f' : Int → Int} {N : Int} : ∀ (n : Nat) (c b hs : Int), 0 ≤ c → c + (n : Int) = N → (∀ j, 0 ≤ j → j < N → go' j = go j ∧ (go j = true → f' j = f j)) → pick go' f' n c b hs = pick go f n c b hs := by
  intro n
  induction n with
  | zero => intro c b hs _ _ _; rfl
  | succ n ih =>
    intro c b hs h0 h1 q
    have qc := q c h0 (by omega)
    show (if go' c = true ∧ b < f' c then pick go' f' n (c + 1) (f' c) c else pick go' f' n (c + 1) b hs) = if go c = true ∧ b < f c then pick go f n (c + 1) (f c) c else pick go f n (c + 1) b hs
    rw [ih _ _ _ (by omega) (by omega) q, ih _ _ _ (by omega) (by omega) q, qc.1]
    by_cases g : go c = true
    · rw [qc.2 g]
    · rw [if_neg (fun z => g z.1), if_neg (fun z => g z.1)]
theorem ld_r (G : GB B) : -600000 ≤ ld B ∧ ld B ≤ 600000 := by
  have := G.1.p0; have := G.1.p1; have := G.2.1; have := G.2.2; have := G.1.mm
  unfold ld
  split <;> omega
theorem val_r : ∀ (k : Nat) (B : Bo), GB B → B.m + (k : Int) ≤ 1100 → -600000 ≤ val k B ∧ val k B ≤ 600000 := by
  intro k
  induction k with
  | zero => intro B G _; exact ld_r G
  | succ k ih =>
    intro B G hm
    have w2 := G.1.w2
    unfold val
    rcases pick_r (go := B.go) (f := fun i => -(val k (sow B i))) (N := 2 * B.w) (2 * B.w).toNat 0 (-1000000) (-1) (by omega) (by omega) with e | ⟨j, a1, a2, a3, a4⟩
    · rw [e, if_pos rfl]; exact ld_r G
    · rw [a4]
      have mm : (sow B j).m = B.m + 1 := rfl
      have := ih (sow B j) (G.sw (by omega) a1 a2) (by rw [mm]; omega)
      rw [if_neg (show ¬ j = -1 by omega)]
      show -600000 ≤ -(val k (sow B j)) ∧ -(val k (sow B j)) ≤ 600000
      omega
theorem hou_r : ∀ (k : Nat) (B : Bo), GB B → hou k B = -1 ∨ (0 ≤ hou k B ∧ hou k B < 2 * B.w ∧ B.go (hou k B) = true) := by
  intro k B G
  cases k with
  | zero => exact Or.inl rfl
  | succ k =>
    have w2 := G.1.w2
    rw [show hou (k + 1) B = (pick B.go (fun i => -(val k (sow B i))) (2 * B.w).toNat 0 (-1000000) (-1)).2 from rfl]
    rcases pick_r (go := B.go) (f := fun i => -(val k (sow B i))) (N := 2 * B.w) (2 * B.w).toNat 0 (-1000000) (-1) (by omega) (by omega) with e | ⟨j, a1, a2, a3, a4⟩
    · rw [e]; exact Or.inl rfl
    · rw [a4]; exact Or.inr ⟨a1, a2, a3⟩
theorem EqB.ldE (E : EqB B C) : ld C = ld B := by unfold ld; rw [E.2.1, E.2.2.1, E.2.2.2.1]
theorem val_eq : ∀ (k : Nat) (B C : Bo), EqB B C → GB B → GB C → B.m + (k : Int) ≤ 1100 → val k C = val k B := by
  intro k
  induction k with
  | zero => intro B C E _ _ _; exact E.ldE
  | succ k ih =>
    intro B C E G G' hm
    have w2 := G.1.w2
    have hb := G.bb (s := B.t)
    have e : pick C.go (fun i => -(val k (sow C i))) (2 * C.w).toNat 0 (-1000000) (-1) = pick B.go (fun i => -(val k (sow B i))) (2 * B.w).toNat 0 (-1000000) (-1) := by
      rw [E.1]
      refine pick_eq (N := 2 * B.w) _ _ _ _ (by omega) (by omega) (fun j j0 j1 => ⟨E.go j0 j1, fun _ => ?_⟩)
      have mm : (sow B j).m = B.m + 1 := rfl
      show -(val k (sow C j)) = -(val k (sow B j))
      rw [ih _ _ (E.sow' G.1 G'.1 (by omega) j0 j1).1 (G.sw (by omega) j0 j1) (G'.sw (by rw [E.2.2.2.2.1]; omega) j0 (by rw [E.1]; exact j1)) (by rw [mm]; omega)]
    unfold val
    rw [e, E.ldE]
theorem hou_eq (k : Nat) (E : EqB B C) (G : GB B) (G' : GB C) (hm : B.m + (k : Int) ≤ 1100) : hou k C = hou k B := by
  cases k with
  | zero => rfl
  | succ k =>
    have w2 := G.1.w2
    have hb := G.bb (s := B.t)
    rw [show hou (k + 1) B = (pick B.go (fun i => -(val k (sow B i))) (2 * B.w).toNat 0 (-1000000) (-1)).2 from rfl, show hou (k + 1) C = (pick C.go (fun i => -(val k (sow C i))) (2 * C.w).toNat 0 (-1000000) (-1)).2 from rfl, E.1]
    refine congrArg Prod.snd (pick_eq (N := 2 * B.w) _ _ _ _ (by omega) (by omega) (fun j j0 j1 => ⟨E.go j0 j1, fun _ => ?_⟩))
    have mm : (sow B j).m = B.m + 1 := rfl
    show -(val k (sow C j)) = -(val k (sow B j))
    rw [val_eq _ _ _ (E.sow' G.1 G'.1 (by omega) j0 j1).1 (G.sw (by omega) j0 j1) (G'.sw (by rw [E.2.2.2.2.1]; omega) j0 (by rw [E.1]; exact j1)) (by rw [mm]; omega)]
end VAL
/-! The class's search. -/
def AB (a b v r : Int) : Prop := (v ≤ a → r ≤ a) ∧ (b ≤ v → b ≤ r) ∧ (a < v → v < b → r = v)
theorem AB.rf {a b v : Int} : AB a b v v := ⟨fun z => z, fun z => z, fun _ _ => rfl⟩
section SEARCH
variable {d : Nat} {X : Bo}
theorem max_id (x y : Int) : a_max x y = if x < y then y else x := a_max_def x y
theorem c_ld {g : AH} {n : Nat} (H : BdH g n X) (O : BoOK X) : (cal (d + 1) m_Bd_turn [(100, (n : Int))] g).bind (fun q => (cal (d + 1) m_Bd_lead [(100, (n : Int)), (0, q.1)] q.2).bind (fun q2 => some (q2.1, q2.2))) = some (ld X, g) := by
  rw [c_turn H, Option.bind_some, c_lead H O, Option.bind_some]
  rfl
theorem c_sfin {g : AH} {dep : Nat} {b hs : Int} (F : FoI g) (H : BdH g (22 + 4 * dep) X) (O : BoOK X) (hd : dep < 6) : ∃ g' : AH, (if (dep : Int) = 0 then (wrf 3 g 20 1 hs).bind (fun h6 => (if hs = (-1) then (cal (d + 1) m_Bd_turn [(100, ((22 + 4 * dep : Nat) : Int))] h6).bind (fun q7 => (cal (d + 1) m_Bd_lead [(100, ((22 + 4 * dep : Nat) : Int)), (0, q7.1)] q7.2).bind (fun q8 => some (q8.1, q8.2))) else some (b, h6))) else (if hs = (-1) then (cal (d + 1) m_Bd_turn [(100, ((22 + 4 * dep : Nat) : Int))] g).bind (fun q9 => (cal (d + 1) m_Bd_lead [(100, ((22 + 4 * dep : Nat) : Int)), (0, q9.1)] q9.2).bind (fun q10 => some (q10.1, q10.2))) else some (b, g))) = some (if hs = -1 then ld X else b, g') ∧ FoI g' ∧ BdH g' (22 + 4 * dep) X ∧ Fr (fun j => dep = 0 ∧ j = 20) g g' ∧ (dep = 0 → g'[20]? = some (3, [21, hs])) := by
  obtain ⟨⟨ch, a⟩, b', c⟩ := id F
  by_cases e : dep = 0
  · have w : wrf 3 g 20 1 hs = some (g.set 20 (3, [21, hs])) := wrf_n (n := 20) a (by simp) hs
    have T : Fr (fun j => dep = 0 ∧ j = 20) g (g.set 20 (3, [21, hs])) := fr_set ⟨e, rfl⟩
    have G20 : (g.set 20 (3, [21, hs]))[20]? = some (3, [21, hs]) := getS (gtl a)
    have H2 : BdH (g.set 20 (3, [21, hs])) (22 + 4 * dep) X := H.fr T (fun j a b => by omega)
    have F2 : FoI (g.set 20 (3, [21, hs])) := ⟨⟨hs, G20⟩, by rw [T.g _ (by omega)]; exact b', fun i hi => by
      obtain ⟨D, x, y⟩ := c i hi
      exact ⟨D, x.fr T (fun j a b => by omega), y⟩⟩
    refine ⟨g.set 20 (3, [21, hs]), ?_, F2, H2, T, fun _ => G20⟩
    rw [if_pos (by omega), w, Option.bind_some, c_ld H2 O]
    by_cases z : hs = -1
    · rw [if_pos z, if_pos z]
    · rw [if_neg z, if_neg z]
  · refine ⟨g, ?_, F, H, Fr.rf, fun z => absurd z e⟩
    rw [if_neg (by omega), c_ld H O]
    by_cases z : hs = -1
    · rw [if_pos z, if_pos z]
    · rw [if_neg z, if_neg z]
def SrcOK (d left dep : Nat) (X : Bo) (least most : Int) (g : AH) (R : AR) : Prop := ∃ (r : Int) (g' : AH), R = some (r, g') ∧ AB least most (val left X) r ∧ -600000 ≤ r ∧ r ≤ 600000 ∧ FoI g' ∧ BdH g' (22 + 4 * dep) X ∧ Fr (fun j => (22 + 4 * (dep + 1) ≤ j ∧ j < 46) ∨ (dep = 0 ∧ j = 20)) g g' ∧ (dep = 0 → least = -1000000 → most = 1000000 → g'[20]? = some (3, [21, hou left X]))
theorem c_search37 {left dep : Nat} {least most : Int} (hd : dep + (left + 1) ≤ 5) (G : GB X) (hm : X.m + ((left + 1 : Nat) : Int) ≤ 1100) (l0 : -1000000 ≤ least) (lm : least < most) (m1 : most ≤ 1000000)
    (IH : ∀ (Y : Bo) (a b : Int) (g : AH), GB Y → Y.m + (left : Int) ≤ 1100 → FoI g → BdH g (22 + 4 * (dep + 1)) Y → -1000000 ≤ a → a < b → b ≤ 1000000 → SrcOK d left (dep + 1) Y a b g (cal (d + left + 7) m_Fo_search [(103, 20), (0, ((dep + 1 : Nat) : Int)), (0, (left : Int)), (0, a), (0, b)] g)) :
    ∀ (n : Nat) (c b hs m ms : Int) (v : AV) (g : AH), FoI g → BdH g (22 + 4 * dep) X → 0 ≤ c → c + (n : Int) = 2 * X.w → (m ≤ least → b ≤ least) → (least < m → m < most → b = m) → (most ≤ m → most ≤ b) → (ms = -1 ↔ hs = -1) → (ms = -1 → m = -1000000 ∧ b = -1000000) → (least = -1000000 → most = 1000000 → b = m ∧ hs = ms) → b ≤ 600000 → (hs ≠ -1 → -600000 ≤ b) → (hs = -1 → b < most) →
      ∃ (r : Int) (g' : AH), run (d + (left + 1) + 7) m_Fo_search 37 [(103, 20), (0, (dep : Int)), (0, ((left + 1 : Nat) : Int)), (0, least), (0, most), (100, ((22 + 4 * dep : Nat) : Int)), (0, b), (0, hs), (100, ((22 + 4 * (dep + 1) : Nat) : Int)), (0, c), v] [] g = some (r, g') ∧ AB least most (if (pick X.go (fun i => -(val left (sow X i))) n c m ms).2 = -1 then ld X else (pick X.go (fun i => -(val left (sow X i))) n c m ms).1) r ∧ -600000 ≤ r ∧ r ≤ 600000 ∧ FoI g' ∧ BdH g' (22 + 4 * dep) X ∧ Fr (fun j => (22 + 4 * (dep + 1) ≤ j ∧ j < 46) ∨ (dep = 0 ∧ j = 20)) g g' ∧ (dep = 0 → least = -1000000 → most = 1000000 → g'[20]? = some (3, [21, (pick X.go (fun i => -(val left (sow X i))) n c m ms).2])) := by
  have O := G.ok
  have w5 := O.w5
  have lx := ld_r G
  intro n
  induction n with
  | zero =>
    intro c b hs m ms v g F H c0 cn i1 i2 i3 i4 i5 i6 i7 i8 i9
    have ch : cal (d + left + 7) m_Bd_houses [(100, ((22 + 4 * dep : Nat) : Int))] g = some (2 * X.w, g) := c_houses (d := d + left + 6) H O
    obtain ⟨g', a1, a2, a3, a4, a5⟩ := c_sfin (d := d + left + 6) (b := b) (hs := hs) F H O (by omega)
    refine ⟨if hs = -1 then ld X else b, g', ?_, ?_, ?_, ?_, a2, a3, a4.wd (fun j z => Or.inr z), fun z x y => ?_⟩
    · show run (d + left + 7 + 1) m_Fo_search 37 _ [] g = _
      rw [k_Fo_search_37, ch, Option.bind_some, if_neg (by show ¬ c < 2 * X.w; omega)]
      rw [show d + left + 6 + 1 = d + left + 7 from rfl] at a1
      exact a1
    · show AB least most (if ms = -1 then ld X else m) (if hs = -1 then ld X else b)
      by_cases z : hs = -1
      · rw [if_pos z, if_pos (i4.mpr z)]; exact AB.rf
      · rw [if_neg z, if_neg (fun y => z (i4.mp y))]; exact ⟨i1, i3, i2⟩
    · by_cases z : hs = -1
      · rw [if_pos z]; exact lx.1
      · rw [if_neg z]; exact i8 z
    · by_cases z : hs = -1
      · rw [if_pos z]; exact lx.2
      · rw [if_neg z]; exact i7
    · rw [a5 z, (i6 x y).2]; rfl
  | succ n ih =>
    intro c b hs m ms v g F H c0 cn i1 i2 i3 i4 i5 i6 i7 i8 i9
    have ch : cal (d + left + 7) m_Bd_houses [(100, ((22 + 4 * dep : Nat) : Int))] g = some (2 * X.w, g) := c_houses (d := d + left + 6) H O
    by_cases hb : b < most
    · have cg : cal (d + left + 7) m_Bd_goes [(100, ((22 + 4 * dep : Nat) : Int)), (0, c)] g = some (bI (X.go c), g) := c_bGoes (d := d + left + 4) H O c0 (by omega)
      have E0 : run (d + (left + 1) + 7) m_Fo_search 37 [(103, 20), (0, (dep : Int)), (0, ((left + 1 : Nat) : Int)), (0, least), (0, most), (100, ((22 + 4 * dep : Nat) : Int)), (0, b), (0, hs), (100, ((22 + 4 * (dep + 1) : Nat) : Int)), (0, c), v] [] g = run (d + left + 7 + 1) m_Fo_search 37 [(103, 20), (0, (dep : Int)), (0, ((left + 1 : Nat) : Int)), (0, least), (0, most), (100, ((22 + 4 * dep : Nat) : Int)), (0, b), (0, hs), (100, ((22 + 4 * (dep + 1) : Nat) : Int)), (0, c), v] [] g := rfl
      cases hg : X.go c with
      | false =>
        obtain ⟨r, g', q⟩ := ih (c + 1) b hs m ms v g F H (by omega) (by omega) i1 i2 i3 i4 i5 i6 i7 i8 i9
        have ep : pick X.go (fun i => -(val left (sow X i))) (n + 1) c m ms = pick X.go (fun i => -(val left (sow X i))) n (c + 1) m ms := by
          show (if X.go c = true ∧ _ then _ else _) = _
          rw [if_neg (fun z => by rw [hg] at z; cases z.1)]
        refine ⟨r, g', ?_, ?_⟩
        · rw [E0, k_Fo_search_37, ch, Option.bind_some, if_pos (by show c < 2 * X.w; omega), if_pos hb]
          show (cal (d + left + 7) m_Bd_goes [(100, ((22 + 4 * dep : Nat) : Int)), (0, c)] g).bind _ = _
          rw [cg, Option.bind_some, hg, if_pos (show bI false = 0 from rfl), add_id (by omega) (by omega)]
          exact q.1
        · rw [ep]; exact q.2
      | true =>
        obtain ⟨D, hD, oD⟩ := F.2.2 (dep + 1) (by omega)
        have hl := hD.lt
        have bb := G.bb (s := X.t)
        have cp : cal (d + left + 7) m_Bd_copy [(100, ((22 + 4 * (dep + 1) : Nat) : Int)), (100, ((22 + 4 * dep : Nat) : Int))] g = some (0, setB g (22 + 4 * (dep + 1)) X) := c_copy (d := d + left + 6) hD H oD O (by omega)
        have so : cal (d + left + 7) m_Bd_sow [(100, ((22 + 4 * (dep + 1) : Nat) : Int)), (0, c)] (setB g (22 + 4 * (dep + 1)) X) = some (brg X c, setB (setB g (22 + 4 * (dep + 1)) X) (22 + 4 * (dep + 1)) (sow X c)) := c_sow (d := d + left + 2) (bdH_set hl) O (by omega) c0 (by omega)
        rw [setB_setB hl] at so
        have GS := G.sw (show X.m < 1100 by omega) c0 (show c < 2 * X.w by omega)
        have mm : (sow X c).m = X.m + 1 := rfl
        have F2 : FoI (setB g (22 + 4 * (dep + 1)) (sow X c)) := F.st (i := dep + 1) (by omega) GS.1
        have H2 : BdH (setB g (22 + 4 * (dep + 1)) (sow X c)) (22 + 4 * dep) X := bdH_ne hl H (by omega)
        have T : Fr (fun j => (22 + 4 * (dep + 1) ≤ j ∧ j < 46) ∨ (dep = 0 ∧ j = 20)) g (setB g (22 + 4 * (dep + 1)) (sow X c)) := fr_setB hl (fun j a b => by omega)
        have HB : BdH (setB g (22 + 4 * (dep + 1)) (sow X c)) (22 + 4 * (dep + 1)) (sow X c) := bdH_set hl
        generalize setB g (22 + 4 * (dep + 1)) (sow X c) = g2 at so F2 H2 T HB
        have bl : -1000000 ≤ b := by
          by_cases z : hs = -1
          · have := (i5 (i4.mpr z)).2; omega
          · have := i8 z; omega
        obtain ⟨r, g3, s1, s2, s3, s4, s5, s6, s7, -⟩ := IH (sow X c) (-most) (-(if least < b then b else least)) g2 GS (by rw [mm]; omega) F2 HB (by omega) (by split <;> omega) (by split <;> omega)
        have H3 : BdH g3 (22 + 4 * dep) X := H2.fr s7 (fun j a b => by omega)
        have T3 : Fr (fun j => (22 + 4 * (dep + 1) ≤ j ∧ j < 46) ∨ (dep = 0 ∧ j = 20)) g g3 := T.tr (s7.wd (fun j z => by omega))
        have vr := val_r left (sow X c) GS (by rw [mm]; omega)
        obtain ⟨t1, t2, t3⟩ := s2
        have E1 : run (d + (left + 1) + 7) m_Fo_search 37 [(103, 20), (0, (dep : Int)), (0, ((left + 1 : Nat) : Int)), (0, least), (0, most), (100, ((22 + 4 * dep : Nat) : Int)), (0, b), (0, hs), (100, ((22 + 4 * (dep + 1) : Nat) : Int)), (0, c), v] [] g = if b < -r then run (d + (left + 1) + 7) m_Fo_search 37 [(103, 20), (0, (dep : Int)), (0, ((left + 1 : Nat) : Int)), (0, least), (0, most), (100, ((22 + 4 * dep : Nat) : Int)), (0, -r), (0, c), (100, ((22 + 4 * (dep + 1) : Nat) : Int)), (0, c + 1), (0, -r)] [] g3 else run (d + (left + 1) + 7) m_Fo_search 37 [(103, 20), (0, (dep : Int)), (0, ((left + 1 : Nat) : Int)), (0, least), (0, most), (100, ((22 + 4 * dep : Nat) : Int)), (0, b), (0, hs), (100, ((22 + 4 * (dep + 1) : Nat) : Int)), (0, c + 1), (0, -r)] [] g3 := by
          rw [E0, k_Fo_search_37, ch, Option.bind_some, if_pos (by show c < 2 * X.w; omega), if_pos hb]
          simp only [cg, hg, cp, so, Option.bind_some]
          rw [if_neg (show ¬ bI true = 0 by decide), max_id, neg_id (by omega) (by omega), neg_id (x := if least < b then b else least) (by split <;> omega) (by split <;> omega), add_id (x := (dep : Int)) (by omega) (by omega), sub_id (by omega) (by omega), show (dep : Int) + 1 = ((dep + 1 : Nat) : Int) by omega, show ((left + 1 : Nat) : Int) - 1 = (left : Int) by omega, s1, Option.bind_some]
          show (if b < a_neg r then _ else _) = _
          rw [neg_id (by omega) (by omega), add_id (by omega) (by omega)]
          rfl
        have ep : pick X.go (fun i => -(val left (sow X i))) (n + 1) c m ms = if m < -(val left (sow X c)) then pick X.go (fun i => -(val left (sow X i))) n (c + 1) (-(val left (sow X c))) c else pick X.go (fun i => -(val left (sow X i))) n (c + 1) m ms := by
          show (if X.go c = true ∧ m < -(val left (sow X c)) then _ else _) = _
          by_cases z : m < -(val left (sow X c))
          · rw [if_pos ⟨hg, z⟩, if_pos z]
          · rw [if_neg (fun y => z y.2), if_neg z]
        have FIN : ∀ (b' hs' m' ms' : Int), (m' ≤ least → b' ≤ least) → (least < m' → m' < most → b' = m') → (most ≤ m' → most ≤ b') → (ms' = -1 ↔ hs' = -1) → (ms' = -1 → m' = -1000000 ∧ b' = -1000000) → (least = -1000000 → most = 1000000 → b' = m' ∧ hs' = ms') → b' ≤ 600000 → (hs' ≠ -1 → -600000 ≤ b') → (hs' = -1 → b' < most) → pick X.go (fun i => -(val left (sow X i))) (n + 1) c m ms = pick X.go (fun i => -(val left (sow X i))) n (c + 1) m' ms' → run (d + (left + 1) + 7) m_Fo_search 37 [(103, 20), (0, (dep : Int)), (0, ((left + 1 : Nat) : Int)), (0, least), (0, most), (100, ((22 + 4 * dep : Nat) : Int)), (0, b), (0, hs), (100, ((22 + 4 * (dep + 1) : Nat) : Int)), (0, c), v] [] g = run (d + (left + 1) + 7) m_Fo_search 37 [(103, 20), (0, (dep : Int)), (0, ((left + 1 : Nat) : Int)), (0, least), (0, most), (100, ((22 + 4 * dep : Nat) : Int)), (0, b'), (0, hs'), (100, ((22 + 4 * (dep + 1) : Nat) : Int)), (0, c + 1), (0, -r)] [] g3 → ∃ (r : Int) (g' : AH), run (d + (left + 1) + 7) m_Fo_search 37 [(103, 20), (0, (dep : Int)), (0, ((left + 1 : Nat) : Int)), (0, least), (0, most), (100, ((22 + 4 * dep : Nat) : Int)), (0, b), (0, hs), (100, ((22 + 4 * (dep + 1) : Nat) : Int)), (0, c), v] [] g = some (r, g') ∧ AB least most (if (pick X.go (fun i => -(val left (sow X i))) (n + 1) c m ms).2 = -1 then ld X else (pick X.go (fun i => -(val left (sow X i))) (n + 1) c m ms).1) r ∧ -600000 ≤ r ∧ r ≤ 600000 ∧ FoI g' ∧ BdH g' (22 + 4 * dep) X ∧ Fr (fun j => (22 + 4 * (dep + 1) ≤ j ∧ j < 46) ∨ (dep = 0 ∧ j = 20)) g g' ∧ (dep = 0 → least = -1000000 → most = 1000000 → g'[20]? = some (3, [21, (pick X.go (fun i => -(val left (sow X i))) (n + 1) c m ms).2])) := by
          intro b' hs' m' ms' j1 j2 j3 j4 j5 j6 j7 j8 j9 e1 e2
          obtain ⟨r', g', q1, q2, q3, q4, q5, q6, q7, q8⟩ := ih (c + 1) b' hs' m' ms' (0, -r) g3 s5 H3 (by omega) (by omega) j1 j2 j3 j4 j5 j6 j7 j8 j9
          rw [e1]
          exact ⟨r', g', e2.trans q1, q2, q3, q4, q5, q6, T3.tr q7, q8⟩
        generalize val left (sow X c) = V at t1 t2 t3 vr ep
        by_cases z1 : b < -r
        · rw [if_pos z1] at E1
          by_cases z2 : m < -V
          · rw [if_pos z2] at ep
            refine FIN (-r) c (-V) c ?_ ?_ ?_ ?_ ?_ ?_ ?_ ?_ ?_ ep E1
            · intro y; split at t2 <;> split at t3 <;> omega
            · intro y1 y2; split at t2 <;> split at t3 <;> omega
            · intro y; omega
            · omega
            · intro y; omega
            · intro y1 y2; refine ⟨?_, rfl⟩; split at t2 <;> split at t3 <;> omega
            · omega
            · intro y; omega
            · intro y; omega
          · rw [if_neg z2] at ep
            refine FIN (-r) c m ms ?_ ?_ ?_ ?_ ?_ ?_ ?_ ?_ ?_ ep E1
            · intro y; split at t2 <;> split at t3 <;> omega
            · intro y1 y2; have := i2 y1 y2; split at t2 <;> split at t3 <;> omega
            · intro y; have := i3 y; omega
            · constructor
              · intro y; have := i5 y; omega
              · intro y; omega
            · intro y; have := i5 y; omega
            · intro y1 y2; have h6 := i6 y1 y2; have : ms ≠ -1 := fun y => (by have := i5 y; omega); have h8 := i8 (by omega); exfalso; split at t2 <;> split at t3 <;> omega
            · omega
            · intro y; omega
            · intro y; omega
        · rw [if_neg z1] at E1
          by_cases z2 : m < -V
          · rw [if_pos z2] at ep
            refine FIN b hs (-V) c ?_ ?_ ?_ ?_ ?_ ?_ ?_ ?_ ?_ ep E1
            · intro y; exact i1 (by omega)
            · intro y1 y2; split at t2 <;> split at t3 <;> omega
            · intro y; have := t1 (by omega); omega
            · constructor
              · intro y; omega
              · intro y; have := i5 (i4.mpr y); omega
            · intro y; omega
            · intro y1 y2; have := i6 y1 y2; split at t2 <;> split at t3 <;> omega
            · exact i7
            · exact i8
            · exact i9
          · rw [if_neg z2] at ep
            exact FIN b hs m ms i1 i2 i3 i4 i5 i6 i7 i8 i9 ep E1
    · -- what reaches most is enough
      have hs1 : hs ≠ -1 := fun z => hb (i9 z)
      have ms1 : ms ≠ -1 := fun z => hs1 (i4.mp z)
      obtain ⟨g', a1, a2, a3, a4, a5⟩ := c_sfin (d := d + left + 6) (b := b) (hs := hs) F H O (by omega)
      have pk := pick_some (go := X.go) (f := fun i => -(val left (sow X i))) (n + 1) c m ms ms1 c0
      have mm : most ≤ m := by
        by_cases y1 : m ≤ least
        · have := i1 y1; omega
        · by_cases y2 : m < most
          · have := i2 (by omega) y2; omega
          · omega
      refine ⟨b, g', ?_, ?_, i8 hs1, i7, a2, a3, a4.wd (fun j z => Or.inr z), fun z x y => by omega⟩
      · show run (d + left + 7 + 1) m_Fo_search 37 _ [] g = _
        rw [k_Fo_search_37, ch, Option.bind_some, if_pos (by show c < 2 * X.w; omega), if_neg hb]
        rw [show d + left + 6 + 1 = d + left + 7 from rfl] at a1
        refine a1.trans ?_
        rw [if_neg hs1]
      · rw [if_neg pk.1]
        exact ⟨fun z => by omega, fun _ => by omega, fun _ z => by omega⟩
end SEARCH
