/-! Odds of moves at random: what they are, and the class's. -/
def lds (B : Bo) (s : Int) : Int := if s = 0 then B.b0 - B.b1 else B.b1 - B.b0
def ways (B : Bo) : Int := cnt B (2 * B.w).toNat 0 0
def smF (go : Int → Bool) (f : Int → Int) : Nat → Int → Int → Int
  | 0, _, x => x
  | n + 1, c, x => smF go f n (c + 1) (if go c = true then x + f c else x)
def cl : Nat → Bo → Int → Int → Int
  | 0, B, o, s => if 0 < lds B s then o else 0
  | k + 1, B, o, s => if ways B = 0 then (if 0 < lds B s then o else 0) else smF B.go (fun i => cl k (sow B i) (o / ways B) s) (2 * B.w).toNat 0 0
section CL
variable {B C : Bo}
theorem ways_r (O : BoOK B) : 0 ≤ ways B ∧ ways B ≤ 10 := by
  have w2 := O.w2; have w5 := O.w5
  have := cnt_ge (B := B) (2 * B.w).toNat 0 0
  unfold ways
  omega
/-- no more than there is -/
theorem smF_c {go : Int → Bool} {f : Int → Int} {q : Int} {B : Bo} (hg : go = B.go) (hf : ∀ c, 0 ≤ c → go c = true → 0 ≤ f c ∧ f c ≤ q) : ∀ (n : Nat) (c x k : Int), 0 ≤ c → 0 ≤ x → x ≤ k * q → 0 ≤ smF go f n c x ∧ smF go f n c x ≤ cnt B n k c * q := by
  intro n
  induction n with
  | zero => intro c x k _ h0 h1; exact ⟨h0, h1⟩
  | succ n ih =>
    intro c x k c0 h0 h1
    show 0 ≤ smF go f n (c + 1) (if go c = true then x + f c else x) ∧ smF go f n (c + 1) (if go c = true then x + f c else x) ≤ cnt B n (if B.go c = true then k + 1 else k) (c + 1) * q
    by_cases g : go c = true
    · have g' : B.go c = true := by rw [← hg]; exact g
      have hq := hf c c0 g
      rw [if_pos g, if_pos g']
      exact ih (c + 1) (x + f c) (k + 1) (by omega) (by omega) (by rw [Int.add_mul, Int.one_mul]; omega)
    · have g' : ¬ B.go c = true := by rw [← hg]; exact g
      rw [if_neg g, if_neg g']
      exact ih (c + 1) x k (by omega) h0 h1
theorem smF_eq {go go' : Int → Bool} {f f' : Int → Int} {N : Int} : ∀ (n : Nat) (c x : Int), 0 ≤ c → c + (n : Int) = N → (∀ j, 0 ≤ j → j < N → go' j = go j ∧ (go j = true → f' j = f j)) → smF go' f' n c x = smF go f n c x := by
  intro n
  induction n with
  | zero => intro c x _ _ _; rfl
  | succ n ih =>
    intro c x c0 cn q
    have qc := q c c0 (by omega)
    show smF go' f' n (c + 1) (if go' c = true then x + f' c else x) = smF go f n (c + 1) (if go c = true then x + f c else x)
    rw [ih _ _ (by omega) (by omega) q, qc.1]
    by_cases g : go c = true
    · rw [if_pos g, if_pos g, qc.2 g]
    · rw [if_neg g, if_neg g]
theorem smF_mul {go : Int → Bool} {f f' : Int → Int} {q N : Int} : ∀ (n : Nat) (c x : Int), 0 ≤ c → c + (n : Int) = N → (∀ j, 0 ≤ j → j < N → go j = true → f' j = q * f j) → smF go f' n c (q * x) = q * smF go f n c x := by
  intro n
  induction n with
  | zero => intro c x _ _ _; rfl
  | succ n ih =>
    intro c x c0 cn h
    show smF go f' n (c + 1) (if go c = true then q * x + f' c else q * x) = q * smF go f n (c + 1) (if go c = true then x + f c else x)
    by_cases g : go c = true
    · rw [if_pos g, if_pos g, h c c0 (by omega) g, ← Int.mul_add]
      exact ih _ _ (by omega) (by omega) h
    · rw [if_neg g, if_neg g]
      exact ih _ _ (by omega) (by omega) h
/-- within what is to be had -/
theorem cl_r : ∀ (k : Nat) (B : Bo) (o s : Int), 0 ≤ o → 0 ≤ cl k B o s ∧ cl k B o s ≤ o := by
  intro k
  induction k with
  | zero =>
    intro B o s o0
    show 0 ≤ (if 0 < lds B s then o else 0) ∧ (if 0 < lds B s then o else 0) ≤ o
    split <;> omega
  | succ k ih =>
    intro B o s o0
    have hw : 0 ≤ ways B := (cnt_ge (B := B) (2 * B.w).toNat 0 0).1
    unfold cl
    by_cases z : ways B = 0
    · rw [if_pos z]; split <;> omega
    · rw [if_neg z]
      have q0 : 0 ≤ o / ways B := Int.ediv_nonneg o0 hw
      have := smF_c (go := B.go) (f := fun i => cl k (sow B i) (o / ways B) s) (q := o / ways B) (B := B) rfl (fun c _ _ => ih (sow B c) (o / ways B) s q0) (2 * B.w).toNat 0 0 0 (by omega) (by omega) (by rw [Int.zero_mul]; omega)
      refine ⟨this.1, Int.le_trans this.2 ?_⟩
      show ways B * (o / ways B) ≤ o
      rw [Int.mul_comm]
      exact Int.ediv_mul_le o z
theorem cnt_half (O : BoOK B) : ∀ (n : Nat) (k c : Int), 0 ≤ c → c + (n : Int) = 2 * B.w → cnt B n k c ≤ k + (if B.t = 0 then (if c < B.w then B.w - c else 0) else (if c < B.w then B.w else 2 * B.w - c)) := by
  have w2 := O.w2
  have t01 := O.t01
  intro n
  induction n with
  | zero =>
    intro k c c0 cn
    show k ≤ _
    rcases t01 with t | t
    · rw [if_pos t]; split <;> omega
    · rw [if_neg (by omega)]; split <;> omega
  | succ n ih =>
    intro k c c0 cn
    have h := ih (if B.go c = true then k + 1 else k) (c + 1) (by omega) (by omega)
    show cnt B n (if B.go c = true then k + 1 else k) (c + 1) ≤ _
    by_cases g : B.go c = true
    · rw [if_pos g] at h ⊢
      have sg : sd B.w c = B.t := by
        unfold Bo.go at g
        rw [Bool.and_eq_true] at g
        exact of_decide_eq_true g.1
      unfold sd at sg
      rcases t01 with t | t
      · rw [if_pos t] at h ⊢
        split at sg <;> split at h <;> split <;> omega
      · rw [if_neg (by omega)] at h ⊢
        split at sg <;> split at h <;> split <;> omega
    · rw [if_neg g] at h ⊢
      rcases t01 with t | t
      · rw [if_pos t] at h ⊢
        split at h <;> split <;> omega
      · rw [if_neg (by omega)] at h ⊢
        split at h <;> split <;> omega
theorem ways_5 (O : BoOK B) : 0 ≤ ways B ∧ ways B ≤ 5 := by
  have w2 := O.w2; have w5 := O.w5; have t01 := O.t01
  have h1 := (cnt_ge (B := B) (2 * B.w).toNat 0 0).1
  have h2 := cnt_half O (2 * B.w).toNat 0 0 (by omega) (by omega)
  unfold ways
  refine ⟨h1, ?_⟩
  rcases t01 with t | t
  · rw [if_pos t, if_pos (by omega)] at h2; omega
  · rw [if_neg (by omega), if_pos (by omega)] at h2; omega
theorem cl_lin : ∀ (k : Nat) (B : Bo) (q s : Int), GB B → B.m + (k : Int) ≤ 1100 → cl k B ((60 : Int) ^ k * q) s = q * cl k B ((60 : Int) ^ k) s := by
  intro k
  induction k with
  | zero =>
    intro B q s _ _
    show (if 0 < lds B s then (60 : Int) ^ 0 * q else 0) = q * (if 0 < lds B s then (60 : Int) ^ 0 else 0)
    rw [Int.pow_zero, Int.one_mul]
    split <;> omega
  | succ k ih =>
    intro B q s G hm
    have w5 := ways_5 G.1
    have w2 := G.1.w2
    unfold cl
    by_cases z : ways B = 0
    · rw [if_pos z, if_pos z]
      by_cases y : 0 < lds B s
      · rw [if_pos y, if_pos y, Int.mul_comm]
      · rw [if_neg y, if_neg y]; omega
    · rw [if_neg z, if_neg z]
      have e0 : (0 : Int) = q * 0 := by omega
      have key : ∀ A : Int, ∃ r : Int, (∀ A : Int, A * 60 / ways B = A * r) := by
        intro _
        rcases (show ways B = 1 ∨ ways B = 2 ∨ ways B = 3 ∨ ways B = 4 ∨ ways B = 5 by omega) with e | e | e | e | e
        · exact ⟨60, fun A => by rw [e]; omega⟩
        · exact ⟨30, fun A => by rw [e]; omega⟩
        · exact ⟨20, fun A => by rw [e]; omega⟩
        · exact ⟨15, fun A => by rw [e]; omega⟩
        · exact ⟨12, fun A => by rw [e]; omega⟩
      obtain ⟨r, hr⟩ := key 0
      have d1 : (60 : Int) ^ (k + 1) * q / ways B = 60 ^ k * (r * q) := by
        rw [Int.pow_succ, Int.mul_right_comm, hr, Int.mul_assoc, Int.mul_comm q r]
      have d2 : (60 : Int) ^ (k + 1) / ways B = 60 ^ k * r := by rw [Int.pow_succ, hr]
      rw [d1, d2]
      have := smF_mul (go := B.go) (f := fun i => cl k (sow B i) (60 ^ k * r) s) (f' := fun i => cl k (sow B i) (60 ^ k * (r * q)) s) (q := q) (N := 2 * B.w) (2 * B.w).toNat 0 0 (by omega) (by omega) (fun j j0 j1 _ => by
        have mm : (sow B j).m = B.m + 1 := rfl
        show cl k (sow B j) (60 ^ k * (r * q)) s = q * cl k (sow B j) (60 ^ k * r) s
        have GS := G.sw (show B.m < 1100 by omega) j0 j1
        rw [ih (sow B j) (r * q) s GS (by rw [mm]; omega), ih (sow B j) r s GS (by rw [mm]; omega), ← Int.mul_assoc, Int.mul_comm r q])
      rw [Int.mul_zero] at this
      exact this
theorem cnt_eq (E : EqB B C) : ∀ (n : Nat) (k c : Int), 0 ≤ c → c + (n : Int) = 2 * B.w → cnt C n k c = cnt B n k c := by
  intro n
  induction n with
  | zero => intro k c _ _; rfl
  | succ n ih =>
    intro k c c0 cn
    show cnt C n (if C.go c = true then k + 1 else k) (c + 1) = cnt B n (if B.go c = true then k + 1 else k) (c + 1)
    rw [E.go c0 (by omega)]
    exact ih _ _ (by omega) (by omega)
theorem cl_eq : ∀ (k : Nat) (B C : Bo) (o s : Int), EqB B C → GB B → GB C → B.m + (k : Int) ≤ 1100 → cl k C o s = cl k B o s := by
  intro k
  induction k with
  | zero =>
    intro B C o s E _ _ _
    show (if 0 < lds C s then o else 0) = if 0 < lds B s then o else 0
    unfold lds
    rw [E.2.2.1, E.2.2.2.1]
  | succ k ih =>
    intro B C o s E G G' hm
    have w2 := G.1.w2
    have hb := G.bb (s := B.t)
    have ew : ways C = ways B := by
      unfold ways
      rw [E.1]
      exact cnt_eq E _ _ _ (by omega) (by omega)
    have el : lds C s = lds B s := by unfold lds; rw [E.2.2.1, E.2.2.2.1]
    have es : smF C.go (fun i => cl k (sow C i) (o / ways C) s) (2 * C.w).toNat 0 0 = smF B.go (fun i => cl k (sow B i) (o / ways B) s) (2 * B.w).toNat 0 0 := by
      rw [E.1, ew]
      refine smF_eq (N := 2 * B.w) _ _ _ (by omega) (by omega) (fun j j0 j1 => ⟨E.go j0 j1, fun _ => ?_⟩)
      have mm : (sow B j).m = B.m + 1 := rfl
      exact ih _ _ _ _ (E.sow' G.1 G'.1 (by omega) j0 j1).1 (G.sw (by omega) j0 j1) (G'.sw (by rw [E.2.2.2.2.1]; omega) j0 (by rw [E.1]; exact j1)) (by rw [mm]; omega)
    unfold cl
    rw [es, ew, el]
end CL
section LEAD
variable {d : Nat}
theorem c_leading64 {left dep : Nat} {X : Bo} {o sd' wy : Int} (hd : dep + (left + 1) ≤ 5) (G : GB X) (hm : X.m + ((left + 1 : Nat) : Int) ≤ 1100) (o0 : 0 ≤ o) (o1 : o ≤ 216000) (hw : wy = ways X) (w0 : wy ≠ 0)
    (IH : ∀ (Y : Bo) (g : AH) (o : Int), GB Y → Y.m + (left : Int) ≤ 1100 → FoI g → BdH g (22 + 4 * (dep + 1)) Y → 0 ≤ o → o ≤ 216000 → ∃ g' : AH, cal (d + left + 7) m_Fo_leading [(103, 20), (0, ((dep + 1 : Nat) : Int)), (0, (left : Int)), (0, o), (0, sd')] g = some (cl left Y o sd', g') ∧ FoI g' ∧ BdH g' (22 + 4 * (dep + 1)) Y ∧ Fr (fun j => 22 + 4 * (dep + 2) ≤ j ∧ j < 46) g g') :
    ∀ (n : Nat) (c x : Int) (g : AH), FoI g → BdH g (22 + 4 * dep) X → 0 ≤ c → c + (n : Int) = 2 * X.w → 0 ≤ x → x ≤ c * 216000 → ∃ g' : AH, run (d + (left + 1) + 7) m_Fo_leading 64 [(103, 20), (0, (dep : Int)), (0, ((left + 1 : Nat) : Int)), (0, o), (0, sd'), (100, ((22 + 4 * dep : Nat) : Int)), (0, wy), (100, ((22 + 4 * (dep + 1) : Nat) : Int)), (0, x), (0, c)] [] g = some (smF X.go (fun i => cl left (sow X i) (o / wy) sd') n c x, g') ∧ FoI g' ∧ BdH g' (22 + 4 * dep) X ∧ Fr (fun j => 22 + 4 * (dep + 1) ≤ j ∧ j < 46) g g' := by
  have O := G.ok
  have w5 := O.w5
  have wr := ways_5 O
  have q0 : 0 ≤ o / wy := Int.ediv_nonneg o0 (by omega)
  have q1 : o / wy ≤ o := Int.ediv_le_self wy o0
  have dv : a_div o wy = o / wy := div_id ⟨by omega, by omega⟩ ⟨by omega, by omega⟩ o0 (by omega)
  intro n
  induction n with
  | zero =>
    intro c x g F H c0 cn x0 xc
    have ch : cal (d + left + 7) m_Bd_houses [(100, ((22 + 4 * dep : Nat) : Int))] g = some (2 * X.w, g) := c_houses (d := d + left + 6) H O
    refine ⟨g, ?_, F, H, Fr.rf⟩
    show run (d + left + 7 + 1) m_Fo_leading 64 _ [] g = _
    rw [k_Fo_leading_64, ch, Option.bind_some, if_neg (by show ¬ c < 2 * X.w; omega)]
    rfl
  | succ n ih =>
    intro c x g F H c0 cn x0 xc
    have ch : cal (d + left + 7) m_Bd_houses [(100, ((22 + 4 * dep : Nat) : Int))] g = some (2 * X.w, g) := c_houses (d := d + left + 6) H O
    have cg : cal (d + left + 7) m_Bd_goes [(100, ((22 + 4 * dep : Nat) : Int)), (0, c)] g = some (bI (X.go c), g) := c_bGoes (d := d + left + 4) H O c0 (by omega)
    have E0 : run (d + (left + 1) + 7) m_Fo_leading 64 [(103, 20), (0, (dep : Int)), (0, ((left + 1 : Nat) : Int)), (0, o), (0, sd'), (100, ((22 + 4 * dep : Nat) : Int)), (0, wy), (100, ((22 + 4 * (dep + 1) : Nat) : Int)), (0, x), (0, c)] [] g = run (d + left + 7 + 1) m_Fo_leading 64 [(103, 20), (0, (dep : Int)), (0, ((left + 1 : Nat) : Int)), (0, o), (0, sd'), (100, ((22 + 4 * dep : Nat) : Int)), (0, wy), (100, ((22 + 4 * (dep + 1) : Nat) : Int)), (0, x), (0, c)] [] g := rfl
    show ∃ g' : AH, _ = some (smF X.go _ n (c + 1) (if X.go c = true then x + cl left (sow X c) (o / wy) sd' else x), g') ∧ _
    cases hg : X.go c with
    | false =>
      obtain ⟨g', b1, b2⟩ := ih (c + 1) x g F H (by omega) (by omega) x0 (by omega)
      refine ⟨g', ?_, b2⟩
      rw [E0, k_Fo_leading_64]
      simp only [ch, cg, hg, Option.bind_some]
      rw [if_pos (by omega), if_pos (show bI false = 0 from rfl), add_id (x := c) (by omega) (by omega), if_neg (by decide)]
      exact b1
    | true =>
      obtain ⟨D, hD, oD⟩ := F.2.2 (dep + 1) (by omega)
      have hl := hD.lt
      have bb := G.bb (s := X.t)
      have cp : cal (d + left + 7) m_Bd_copy [(100, ((22 + 4 * (dep + 1) : Nat) : Int)), (100, ((22 + 4 * dep : Nat) : Int))] g = some (0, setB g (22 + 4 * (dep + 1)) X) := c_copy (d := d + left + 6) hD H oD O (by omega)
      have so : cal (d + left + 7) m_Bd_sow [(100, ((22 + 4 * (dep + 1) : Nat) : Int)), (0, c)] (setB g (22 + 4 * (dep + 1)) X) = some (brg X c, setB (setB g (22 + 4 * (dep + 1)) X) (22 + 4 * (dep + 1)) (sow X c)) := c_sow (d := d + left + 2) (bdH_set hl) O (by omega) c0 (by omega)
      rw [setB_setB hl] at so
      have GS := G.sw (show X.m < 1100 by omega) c0 (show c < 2 * X.w by omega)
      have mm : (sow X c).m = X.m + 1 := rfl
      have F2 : FoI (setB g (22 + 4 * (dep + 1)) (sow X c)) := F.st (i := dep + 1) (by omega) GS.1
      have H2 : BdH (setB g (22 + 4 * (dep + 1)) (sow X c)) (22 + 4 * dep) X := bdH_ne hl H (by omega)
      have T : Fr (fun j => 22 + 4 * (dep + 1) ≤ j ∧ j < 46) g (setB g (22 + 4 * (dep + 1)) (sow X c)) := fr_setB hl (fun j a b => by omega)
      have HB : BdH (setB g (22 + 4 * (dep + 1)) (sow X c)) (22 + 4 * (dep + 1)) (sow X c) := bdH_set hl
      generalize setB g (22 + 4 * (dep + 1)) (sow X c) = g2 at so F2 H2 T HB
      obtain ⟨g3, s1, s2, s3, s4⟩ := IH (sow X c) g2 (o / wy) GS (by rw [mm]; omega) F2 HB q0 (by omega)
      have cr := cl_r left (sow X c) (o / wy) sd' q0
      obtain ⟨g', b1, b2, b3, b4⟩ := ih (c + 1) (x + cl left (sow X c) (o / wy) sd') g3 s2 (H2.fr s4 (fun j a b => by omega)) (by omega) (by omega) (by omega) (by omega)
      refine ⟨g', ?_, b2, b3, (T.tr (s4.wd (fun j z => by omega))).tr b4⟩
      rw [E0, k_Fo_leading_64]
      simp only [ch, cg, hg, cp, so, Option.bind_some]
      rw [if_pos (by omega), if_neg (show ¬ bI true = 0 by decide), if_neg w0, dv, add_id (x := (dep : Int)) (by omega) (by omega), sub_id (by omega) (by omega), show (dep : Int) + 1 = ((dep + 1 : Nat) : Int) by omega, show ((left + 1 : Nat) : Int) - 1 = (left : Int) by omega, s1, Option.bind_some]
      show run (d + left + 7 + 1) m_Fo_leading 64 [(103, 20), (0, (dep : Int)), (0, ((left + 1 : Nat) : Int)), (0, o), (0, sd'), (100, ((22 + 4 * dep : Nat) : Int)), (0, wy), (100, ((22 + 4 * (dep + 1) : Nat) : Int)), (0, a_add x (cl left (sow X c) (o / wy) sd')), (0, a_add c 1)] [] g3 = _
      rw [add_id (x := x) (by omega) (by omega), add_id (x := c) (by omega) (by omega), if_true]
      exact b1
theorem c_leading {sd' : Int} : ∀ (left dep : Nat) (X : Bo) (g : AH) (o : Int), dep + left ≤ 5 → GB X → X.m + (left : Int) ≤ 1100 → FoI g → BdH g (22 + 4 * dep) X → 0 ≤ o → o ≤ 216000 → ∃ g' : AH, cal (d + left + 7) m_Fo_leading [(103, 20), (0, (dep : Int)), (0, (left : Int)), (0, o), (0, sd')] g = some (cl left X o sd', g') ∧ FoI g' ∧ BdH g' (22 + 4 * dep) X ∧ Fr (fun j => 22 + 4 * (dep + 1) ≤ j ∧ j < 46) g g' := by
  intro left
  induction left with
  | zero =>
    intro dep X g o hd G hm F H o0 o1
    have r0 : rdar 24 g 21 (dep : Int) = some ((22 + 4 * dep : Nat) : Int) := by
      have := F.rd (i := (dep : Int)) (by omega) (by omega)
      rw [Int.toNat_natCast] at this
      exact this
    have gb : cal (d + 0 + 6) m_Bd_goingBits [(100, ((22 + 4 * dep : Nat) : Int))] g = some (gob X, g) := c_goingBits (d := d + 2) H G.1
    have ll : cal (d + 0 + 6) m_Bd_lead [(100, ((22 + 4 * dep : Nat) : Int)), (0, sd')] g = some (lds X sd', g) := c_lead (d := d + 5) H G.1 sd'
    refine ⟨g, ?_, F, H, Fr.rf⟩
    rw [k_Fo_leading]
    simp only [F.r0, r0, gb, c_bitCount, ll, Option.bind_some]
    rw [if_neg (by omega)]
    show _ = some (if 0 < lds X sd' then o else 0, g)
    exact ifs
  | succ left ih =>
    intro dep X g o hd G hm F H o0 o1
    have w2 := G.1.w2
    have wr := ways_5 G.1
    have r0 : rdar 24 g 21 (dep : Int) = some ((22 + 4 * dep : Nat) : Int) := by
      have := F.rd (i := (dep : Int)) (by omega) (by omega)
      rw [Int.toNat_natCast] at this
      exact this
    have r1 : rdar 24 g 21 ((dep : Int) + 1) = some ((22 + 4 * (dep + 1) : Nat) : Int) := by
      have := F.rd (i := (dep : Int) + 1) (by omega) (by omega)
      rw [show ((dep : Int) + 1).toNat = dep + 1 by omega] at this
      exact this
    have gb : cal (d + (left + 1) + 6) m_Bd_goingBits [(100, ((22 + 4 * dep : Nat) : Int))] g = some (gob X, g) := c_goingBits (d := d + (left + 1) + 2) H G.1
    have ll : cal (d + (left + 1) + 6) m_Bd_lead [(100, ((22 + 4 * dep : Nat) : Int)), (0, sd')] g = some (lds X sd', g) := c_lead (d := d + (left + 1) + 5) H G.1 sd'
    have eb : rBC (gob X) = ways X := (gob_bc G.1).1
    show ∃ g' : AH, _ = some (if ways X = 0 then (if 0 < lds X sd' then o else 0) else smF X.go (fun i => cl left (sow X i) (o / ways X) sd') (2 * X.w).toNat 0 0, g') ∧ _
    by_cases z : ways X = 0
    · refine ⟨g, ?_, F, H, Fr.rf⟩
      rw [k_Fo_leading]
      simp only [F.r0, r0, gb, c_bitCount, ll, eb, Option.bind_some]
      rw [if_pos (by omega), if_neg (by omega), if_pos z]
      exact ifs
    · obtain ⟨g', b1, b2, b3, b4⟩ := c_leading64 (d := d) (wy := ways X) (sd' := sd') hd G hm o0 o1 rfl z (fun Y g o x1 x2 x3 x4 x5 x6 => ih (dep + 1) Y g o (by omega) x1 x2 x3 x4 x5 x6) (2 * X.w).toNat 0 0 g F H (by omega) (by omega) (by omega) (by omega)
      refine ⟨g', ?_, b2, b3, b4⟩
      rw [k_Fo_leading]
      simp only [F.r0, r0, gb, c_bitCount, ll, eb, Option.bind_some]
      rw [if_pos (by omega), if_pos (by omega), if_pos (by omega), add_id (by omega) (by omega), r1, Option.bind_some, if_neg z]
      exact b1
end LEAD
