/-! Of which kind it can be. -/
def rAnd (x y : Int) : Int := (Int32.ofInt x &&& Int32.ofInt y).toInt
def rOr (x y : Int) : Int := (Int32.ofInt x ||| Int32.ofInt y).toInt
def rShl (x y : Int) : Int := (Int32.ofInt x <<< (Int32.ofInt y &&& 31)).toInt
def rShr (x y : Int) : Int := (Int32.ofInt x >>> (Int32.ofInt y &&& 31)).toInt
def rUshr (x y : Int) : Int := ((Int32.ofInt x).toUInt32 >>> ((Int32.ofInt y).toUInt32 &&& Int32.toUInt32 31)).toInt32.toInt
def rAdd (x y : Int) : Int := (Int32.ofInt (x + y)).toInt
def rSub (x y : Int) : Int := (Int32.ofInt (x - y)).toInt
theorem e_and : a_and = rAnd := by funext x y; exact a_and_def x y
theorem e_or : a_or = rOr := by funext x y; exact a_or_def x y
theorem e_shl : a_shl = rShl := by funext x y; exact a_shl_def x y
theorem e_shr : a_shr = rShr := by funext x y; exact a_shr_def x y
theorem e_ushr : a_ushr = rUshr := by funext x y; exact a_ushr_def x y
theorem e_add : a_add = rAdd := by funext x y; rw [a_add_def, w32_def]; rfl
theorem e_sub : a_sub = rSub := by funext x y; rw [a_sub_def, w32_def]; rfl
theorem finI {n : Nat} {x : Int} (h0 : 0 ≤ x) (h1 : x < (n : Int)) : ∃ k : Fin n, x = (k.val : Int) := ⟨⟨x.toNat, by omega⟩, by simp only; omega⟩
theorem bit2_all : ∀ (S : Fin 32) (a b : Fin 5), (rAnd (rAnd (rShr (S.val : Int) (a.val : Int)) (rShr (S.val : Int) (b.val : Int))) 1 = 1) ↔ (rAnd (rShr (S.val : Int) (a.val : Int)) 1 = 1 ∧ rAnd (rShr (S.val : Int) (b.val : Int)) 1 = 1) := by decide +kernel
theorem bit2 {S a b : Int} (s0 : 0 ≤ S) (s1 : S < 32) (a0 : 0 ≤ a) (a1 : a < 5) (b0 : 0 ≤ b) (b1 : b < 5) : (a_and (a_and (a_shr S a) (a_shr S b)) 1 = 1) ↔ (a_and (a_shr S a) 1 = 1 ∧ a_and (a_shr S b) 1 = 1) := by
  obtain ⟨S, rfl⟩ := finI (n := 32) s0 s1
  obtain ⟨a, rfl⟩ := finI (n := 5) a0 a1
  obtain ⟨b, rfl⟩ := finI (n := 5) b0 b1
  rw [e_and, e_shr]
  exact bit2_all S a b
def rBC1 (x : Int) : Int := rSub x (rAnd (rUshr x 1) 1431655765)
def rBC2 (x : Int) : Int := rAdd (rAnd (rBC1 x) 858993459) (rAnd (rUshr (rBC1 x) 2) 858993459)
def rBC3 (x : Int) : Int := rAnd (rAdd (rBC2 x) (rUshr (rBC2 x) 4)) 252645135
def rBC4 (x : Int) : Int := rAdd (rBC3 x) (rUshr (rBC3 x) 8)
def rBC (x : Int) : Int := rAnd (rAdd (rBC4 x) (rUshr (rBC4 x) 16)) 63
theorem c_bitCount {d : Nat} {x : Int} {h : AH} : cal (d + 1) m_Jd_bitCount [(0, x)] h = some (rBC x, h) := by
  rw [k_Jd_bitCount, e_and, e_add, e_sub, e_ushr]
  rfl
def rS5 (S : Int) : Int := rAdd (rAdd (rAdd (rAdd (rAdd 0 (rAnd (rShr S 0) 1)) (rAnd (rShr S 1) 1)) (rAnd (rShr S 2) 1)) (rAnd (rShr S 3) 1)) (rAnd (rShr S 4) 1)
theorem bc32 : ∀ S : Fin 32, rBC (S.val : Int) = rS5 (S.val : Int) ∧ 0 ≤ rBC (S.val : Int) ∧ rBC (S.val : Int) ≤ 5 := by decide +kernel
section FIT
variable (s1 s2 s3 s4 : List Int)
def fitN (c : Int) : Nat → Nat → Bool
  | 0, _ => true
  | k + 1, n => if Lk c (s1.getD n 0) = s2.getD n 0 ∧ bI (Tk c (s1.getD n 0)) = s3.getD n 0 ∧ bI (Yk c (s1.getD n 0)) = s4.getD n 0 then fitN c k (n + 1) else false
end FIT
noncomputable def kdF (fit : Int → Bool) : Nat → Int → Int → Int
  | 0, x, _ => x
  | k + 1, x, c => kdF fit k (if fit c = true then a_or x (a_shl 1 c) else a_or x 0) (c + 1)
theorem kd_all : ∀ a b c d e : Bool, 0 ≤ (let f := fun (x : Int) (t : Bool) (k : Int) => if t = true then rOr x (rShl 1 k) else rOr x 0; f (f (f (f (f 0 a 0) b 1) c 2) d 3) e 4) ∧ (let f := fun (x : Int) (t : Bool) (k : Int) => if t = true then rOr x (rShl 1 k) else rOr x 0; f (f (f (f (f 0 a 0) b 1) c 2) d 3) e 4) < 32 := by decide +kernel
theorem kd_r (fit : Int → Bool) : 0 ≤ kdF fit 5 0 0 ∧ kdF fit 5 0 0 < 32 := by
  have := kd_all (fit 0) (fit 1) (fit 2) (fit 3) (fit 4)
  unfold kdF kdF kdF kdF kdF kdF
  rw [e_or, e_shl]
  exact this
theorem Lk_r {k s : Int} (h : 0 ≤ s) : 0 ≤ Lk k s ∧ Lk k s ≤ s := by
  unfold Lk
  split
  · split <;> omega
  · split
    · omega
    · split
      · by_cases e : s = 0
        · rw [e]; decide
        · omega
      · omega
theorem z10 : ((1 : Int) = 0) = False := eq_false (by decide)
theorem m_isOf {d : Nat} {h : AH} {k s : Int} (k0 : 0 ≤ k) (k4 : k ≤ 4) (h0 : 0 ≤ s) (h1 : s ≤ 1000) : cal (d + 2) m_Mo_isOf [(0, k), (0, s)] h = some (4 * Lk k s + 2 * bI (Tk k s) + bI (Yk k s), h) := by
  have hL := Lk_r (k := k) h0
  rw [k_Mo_isOf]
  simp only [m_liftsOf h0 h1, m_takesOne k0 k4, m_yieldsAll k0 k4, Option.bind_some]
  rw [mul_id (by omega) (by omega)]
  cases Tk k s <;> cases Yk k s <;> simp only [bI, if_true, if_false, Bool.false_eq_true, z10] <;> rw [add_id (x := 4 * Lk k s) (by omega) (by omega), add_id (by omega) (by omega)] <;> congr 2 <;> omega
/-! Its loops, on both sides. -/
def alk (a b g : Int) : Prop := Lk a g = Lk b g ∧ bI (Tk a g) = bI (Tk b g) ∧ bI (Yk a g) = bI (Yk b g)
noncomputable def prt (S g a : Int) : Nat → Int → Int → Int
  | 0, x, _ => x
  | k + 1, x, b => prt S g a k (if a_and (a_shr S a) 1 = 1 ∧ a_and (a_shr S b) 1 = 1 ∧ Lk a g = Lk b g ∧ bI (Tk a g) = bI (Tk b g) ∧ bI (Yk a g) = bI (Yk b g) then x + 1 else x) (b + 1)
noncomputable def gpt (S g : Int) : Nat → Int → Int → Int
  | 0, m, _ => m
  | k + 1, m, a => gpt S g k (if m < prt S g a 5 0 0 then prt S g a 5 0 0 else m) (a + 1)
noncomputable def qst (S : Int) : Nat → Int → Int → Int → Int
  | 0, _, f, _ => f
  | k + 1, l, f, g => if gpt S g 5 0 0 < l then qst S k (gpt S g 5 0 0) g (g + 1) else qst S k l f (g + 1)
theorem of3 {L l t y : Int} {T Y : Bool} (t0 : t = 0 ∨ t = 1) (y0 : y = 0 ∨ y = 1) : (4 * L + 2 * bI T + bI Y = 4 * l + 2 * t + y) ↔ (L = l ∧ bI T = t ∧ bI Y = y) := by
  have := bI01 T; have := bI01 Y
  omega
section FITS
variable {h : AH} {d : Nat} {ma : Int} {s1 s2 s3 s4 s5 : List Int} {le pl be to va br un ke la : Int}
theorem c_fits (e46 : h[46]? = some (4, [47, 48, 49, 50, ma])) (e47 : h[47]? = some (20, s1)) (e48 : h[48]? = some (20, s2)) (e49 : h[49]? = some (21, s3)) (e50 : h[50]? = some (21, s4)) (R : SiR s1 s2 s3 s4 s5) (m6 : ma ≤ 6) {c : Int} : ∀ (k n : Nat) (v : AV), (n : Int) + (k : Int) = ma → run (d + 2) m_Si_fits 2 [(104, 46), (0, c), (0, (n : Int)), v] [] h = some (bI (fitN s1 s2 s3 s4 c k n), h) := by
  have r4 : rdf 4 h 46 4 = some ma := rdf_n (n := 46) e46 4
  have r0 : rdr 4 h 46 0 = some 47 := rdr_n (n := 46) e46 rfl (by omega)
  have r1 : rdr 4 h 46 1 = some 48 := rdr_n (n := 46) e46 rfl (by omega)
  have r2 : rdr 4 h 46 2 = some 49 := rdr_n (n := 46) e46 rfl (by omega)
  have r3 : rdr 4 h 46 3 = some 50 := rdr_n (n := 46) e46 rfl (by omega)
  obtain ⟨l1, l2, l3, l4, l5, q⟩ := R
  intro k
  induction k with
  | zero => intro n v e; rw [k_Si_fits_2, r4, Option.bind_some, if_neg (by omega)]; rfl
  | succ k ih =>
    intro n v e
    have qn := q n (by omega)
    have a1 : rda 20 h 47 (n : Int) = some (s1.getD n 0) := (rda_n (n := 47) e47 n).trans (getD_some (by omega))
    have a2 : rda 20 h 48 (n : Int) = some (s2.getD n 0) := (rda_n (n := 48) e48 n).trans (getD_some (by omega))
    have a3 : rda 21 h 49 (n : Int) = some (s3.getD n 0) := (rda_n (n := 49) e49 n).trans (getD_some (by omega))
    have a4 : rda 21 h 50 (n : Int) = some (s4.getD n 0) := (rda_n (n := 50) e50 n).trans (getD_some (by omega))
    rw [k_Si_fits_2]
    simp only [r4, r0, r1, r2, r3, a1, a2, a3, a4, c_lifted qn.1.1 (show s1.getD n 0 ≤ 1000 by omega), c_takes, c_yields, Option.bind_some]
    rw [if_pos (by omega), add_id (by omega) (by omega)]
    unfold fitN
    by_cases x1 : Lk c (s1.getD n 0) = s2.getD n 0
    · rw [if_pos x1]
      by_cases x2 : bI (Tk c (s1.getD n 0)) = s3.getD n 0
      · rw [if_pos x2]
        by_cases x3 : bI (Yk c (s1.getD n 0)) = s4.getD n 0
        · rw [if_pos x3, if_pos ⟨x1, x2, x3⟩]
          exact ih (n + 1) _ (by omega)
        · rw [if_neg x3, if_neg (fun z => x3 z.2.2)]; rfl
      · rw [if_neg x2, if_neg (fun z => x2 z.2.1)]; rfl
    · rw [if_neg x1, if_neg (fun z => x1 z.1)]; rfl
theorem c_possible (e46 : h[46]? = some (4, [47, 48, 49, 50, ma])) (e47 : h[47]? = some (20, s1)) (e48 : h[48]? = some (20, s2)) (e49 : h[49]? = some (21, s3)) (e50 : h[50]? = some (21, s4)) (R : SiR s1 s2 s3 s4 s5) (m0 : 0 ≤ ma) (m6 : ma ≤ 6) : ∀ (k : Nat) (x c : Int), 0 ≤ c → c + (k : Int) = 5 → run (d + 3) m_Si_possible 4 [(104, 46), (0, x), (0, c)] [] h = some (kdF (fun c => fitN s1 s2 s3 s4 c ma.toNat 0) k x c, h) := by
  intro k
  induction k with
  | zero => intro x c _ e; rw [k_Si_possible_4, if_neg (by omega)]; rfl
  | succ k ih =>
    intro x c c0 e
    have f := c_fits (d := d) (c := c) e46 e47 e48 e49 e50 R m6 ma.toNat 0 (9, 0) (by omega)
    rw [k_Si_possible_4, if_pos (by omega), k_Si_fits]
    have f : run (d + 1 + 1) m_Si_fits 2 [(104, 46), (0, c), (0, 0), (9, 0)] [] h = _ := f
    rw [f, Option.bind_some, add_id (by omega) (by omega)]
    unfold kdF
    cases hf : fitN s1 s2 s3 s4 c ma.toNat 0 with
    | false => rw [if_pos (show bI false = 0 from rfl), if_neg (by decide)]; exact ih _ _ (by omega) (by omega)
    | true => rw [if_neg (show ¬ bI true = 0 by decide), if_pos rfl]; exact ih _ _ (by omega) (by omega)
theorem m_kinds14z (hm : h[108]? = some (7, hM le pl be to va br un ke la ma)) (m6 : ma ≤ 6) {x c : Int} {X : AR} (K : ∀ v w : AV, run (d + 1) m_Mo_kinds 4 [(107, 108), (0, a_or x 0), (0, a_add c 1), v, w] [] h = X) : ∀ (k n : Nat), (n : Int) + (k : Int) = ma → run (d + 1) m_Mo_kinds 14 [(107, 108), (0, x), (0, c), (0, 0), (0, (n : Int))] [] h = X := by
  have r : rdf 7 h 108 23 = some ma := hmf hm rfl
  intro k
  induction k with
  | zero => intro n e; rw [k_Mo_kinds_14, r, Option.bind_some, if_neg (by omega), if_pos rfl]; exact K _ _
  | succ k ih => intro n e; rw [k_Mo_kinds_14, r, Option.bind_some, if_pos (by omega), if_pos rfl, add_id (by omega) (by omega)]; exact ih (n + 1) (by omega)
theorem m_kinds14 (hm : h[108]? = some (7, hM le pl be to va br un ke la ma)) (e22 : h[122]? = some (20, s5)) (R : SiR s1 s2 s3 s4 s5) (m6 : ma ≤ 6) {x c : Int} (c0 : 0 ≤ c) (c4 : c ≤ 4) {X : AR} (f : Nat → Bool) (hf : ∀ n, f n = fitN s1 s2 s3 s4 c (ma.toNat - n) n) (K0 : f 0 = false → ∀ v w : AV, run (d + 3) m_Mo_kinds 4 [(107, 108), (0, a_or x 0), (0, a_add c 1), v, w] [] h = X) (K1 : f 0 = true → ∀ v w : AV, run (d + 3) m_Mo_kinds 4 [(107, 108), (0, a_or x (a_shl 1 c)), (0, a_add c 1), v, w] [] h = X) : ∀ (k n : Nat), (n : Int) + (k : Int) = ma → f n = f 0 → run (d + 3) m_Mo_kinds 14 [(107, 108), (0, x), (0, c), (0, 1), (0, (n : Int))] [] h = X := by
  have r : rdf 7 h 108 23 = some ma := hmf hm rfl
  have r2 : rdr 7 h 108 22 = some 122 := hmr hm rfl (by omega)
  obtain ⟨l1, l2, l3, l4, l5, q⟩ := R
  intro k
  induction k with
  | zero =>
    intro n e g
    have : f 0 = true := by rw [← g, hf, show ma.toNat - n = 0 by omega]; rfl
    rw [k_Mo_kinds_14, r, Option.bind_some, if_neg (by omega), if_neg (by decide)]
    exact K1 this _ _
  | succ k ih =>
    intro n e g
    have qn := q n (by omega)
    have A : ∀ j : Nat, j < 4 → rda 20 h 122 (4 * (n : Int) + (j : Int)) = some (s5.getD (4 * n + j) 0) := by
      intro j hj
      have := (rda_i (n := 122) e22 (i := 4 * (n : Int) + (j : Int)) (by omega)).trans (getD_some (by omega))
      rw [show (4 * (n : Int) + (j : Int)).toNat = 4 * n + j by omega] at this
      exact this
    have a0 : rda 20 h 122 (4 * (n : Int)) = some (s1.getD n 0) := by
      have := A 0 (by omega)
      rw [show 4 * (n : Int) + ((0 : Nat) : Int) = 4 * (n : Int) by omega, Nat.add_zero, qn.2.2.2.2.1] at this
      exact this
    have a1 : rda 20 h 122 (4 * (n : Int) + 1) = some (s2.getD n 0) := by rw [← qn.2.2.2.2.2.1]; exact A 1 (by omega)
    have a2 : rda 20 h 122 (4 * (n : Int) + 2) = some (s3.getD n 0) := by rw [← qn.2.2.2.2.2.2.1]; exact A 2 (by omega)
    have a3 : rda 20 h 122 (4 * (n : Int) + 3) = some (s4.getD n 0) := by rw [← qn.2.2.2.2.2.2.2]; exact A 3 (by omega)
    have hu : f n = if Lk c (s1.getD n 0) = s2.getD n 0 ∧ bI (Tk c (s1.getD n 0)) = s3.getD n 0 ∧ bI (Yk c (s1.getD n 0)) = s4.getD n 0 then f (n + 1) else false := by
      rw [hf, hf, show ma.toNat - n = (ma.toNat - (n + 1)) + 1 by omega]; rfl
    have t0 := qn.2.2.1
    have y0 := qn.2.2.2.1
    have lv := qn.2.1
    rw [k_Mo_kinds_14]
    simp only [r, r2, Option.bind_some]
    rw [if_pos (by omega), if_neg (by decide), mul_id (by omega) (by omega)]
    simp only [a0, m_isOf c0 c4 qn.1.1 (show s1.getD n 0 ≤ 1000 by omega), r2, Option.bind_some]
    rw [add_id (x := 4 * (n : Int)) (by omega) (by omega), a1, Option.bind_some, add_id (x := 4 * (n : Int)) (by omega) (by omega), a2, Option.bind_some, add_id (x := 4 * (n : Int)) (by omega) (by omega), a3, Option.bind_some, mul_id (by omega) (by omega), mul_id (by omega) (by omega), add_id (x := 4 * s2.getD n 0) (by omega) (by omega), add_id (x := 4 * s2.getD n 0 + 2 * s3.getD n 0) (by omega) (by omega), add_id (x := (n : Int)) (by omega) (by omega)]
    by_cases z : Lk c (s1.getD n 0) = s2.getD n 0 ∧ bI (Tk c (s1.getD n 0)) = s3.getD n 0 ∧ bI (Yk c (s1.getD n 0)) = s4.getD n 0
    · rw [if_pos ((of3 t0 y0).mpr z)]
      rw [if_pos z] at hu
      exact ih (n + 1) (by omega) (hu ▸ g)
    · rw [if_neg (fun w => z ((of3 t0 y0).mp w))]
      rw [if_neg z] at hu
      have : f 0 = false := by rw [← g]; exact hu
      exact m_kinds14z (d := d + 2) hm m6 (K0 this) k (n + 1) (by omega)
theorem m_kinds4 (hm : h[108]? = some (7, hM le pl be to va br un ke la ma)) (e22 : h[122]? = some (20, s5)) (R : SiR s1 s2 s3 s4 s5) (m0 : 0 ≤ ma) (m6 : ma ≤ 6) : ∀ (k : Nat) (x c : Int) (v w : AV), 0 ≤ c → c + (k : Int) = 5 → run (d + 3) m_Mo_kinds 4 [(107, 108), (0, x), (0, c), v, w] [] h = some (kdF (fun c => fitN s1 s2 s3 s4 c ma.toNat 0) k x c, h) := by
  intro k
  induction k with
  | zero => intro x c v w _ e; rw [k_Mo_kinds_4, if_neg (by omega)]; rfl
  | succ k ih =>
    intro x c v w c0 e
    rw [k_Mo_kinds_4, if_pos (by omega)]
    refine m_kinds14 hm e22 R m6 c0 (by omega) (fun n => fitN s1 s2 s3 s4 c (ma.toNat - n) n) (fun n => rfl) (fun z v w => ?_) (fun z v w => ?_) ma.toNat 0 (by omega) rfl
    · have z : fitN s1 s2 s3 s4 c ma.toNat 0 = false := z
      rw [add_id (by omega) (by omega), ih _ _ v w (by omega) (by omega)]
      show _ = some (kdF _ k (if fitN s1 s2 s3 s4 c ma.toNat 0 = true then a_or x (a_shl 1 c) else a_or x 0) (c + 1), h)
      rw [z]
      rfl
    · have z : fitN s1 s2 s3 s4 c ma.toNat 0 = true := z
      rw [add_id (by omega) (by omega), ih _ _ v w (by omega) (by omega)]
      show _ = some (kdF _ k (if fitN s1 s2 s3 s4 c ma.toNat 0 = true then a_or x (a_shl 1 c) else a_or x 0) (c + 1), h)
      rw [z]
      rfl
end FITS
