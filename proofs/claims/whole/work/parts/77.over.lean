/-! rash, over; the houses that go, counted. -/
def cnt (B : Bo) : Nat → Int → Int → Int
  | 0, n, _ => n
  | k + 1, n, c => cnt B k (if B.go c = true then n + 1 else n) (c + 1)
theorem goF_cnt {B : Bo} : ∀ (k c : Nat) (x : Int), c + k ≤ 10 → 0 ≤ x → x < ((2 ^ c : Nat) : Int) → rBC (goF B k x (c : Int)) = cnt B k (rBC x) (c : Int) ∧ 0 ≤ goF B k x (c : Int) ∧ goF B k x (c : Int) < ((2 ^ (c + k) : Nat) : Int) := by
  intro k
  induction k with
  | zero => intro c x _ h0 h1; exact ⟨rfl, h0, h1⟩
  | succ k ih =>
    intro c x hc h0 h1
    have p10 : (2 ^ c : Nat) ≤ 2 ^ 9 := Nat.pow_le_pow_right (by omega) (by omega)
    have q := or_all ⟨c, by omega⟩ ⟨x.toNat, by omega⟩ (by show x.toNat < 2 ^ c; omega)
    simp only [Int.toNat_of_nonneg h0] at q
    have ps : (2 ^ (c + 1) : Nat) = 2 * 2 ^ c := by rw [Nat.pow_succ]; omega
    show rBC (goF B k (if B.go (c : Int) = true then a_or x (a_shl 1 (c : Int)) else a_or x 0) ((c : Int) + 1)) = cnt B k (if B.go (c : Int) = true then rBC x + 1 else rBC x) ((c : Int) + 1) ∧ 0 ≤ goF B k (if B.go (c : Int) = true then a_or x (a_shl 1 (c : Int)) else a_or x 0) ((c : Int) + 1) ∧ goF B k (if B.go (c : Int) = true then a_or x (a_shl 1 (c : Int)) else a_or x 0) ((c : Int) + 1) < ((2 ^ (c + (k + 1)) : Nat) : Int)
    rw [e_or, e_shl, show c + (k + 1) = c + 1 + k by omega]
    cases hg : B.go (c : Int) with
    | false =>
      rw [if_neg (by decide), if_neg (by decide), q.2.1]
      exact ih (c + 1) x (by omega) h0 (by rw [ps]; omega)
    | true =>
      rw [if_pos rfl, if_pos rfl, q.1, ← q.2.2]
      exact ih (c + 1) _ (by omega) (by omega) (by rw [ps]; omega)
theorem cnt_ge {B : Bo} : ∀ (k : Nat) (n c : Int), n ≤ cnt B k n c ∧ cnt B k n c ≤ n + (k : Int) := by
  intro k
  induction k with
  | zero => intro n c; show n ≤ n ∧ n ≤ n + 0; omega
  | succ k ih =>
    intro n c
    have := ih (if B.go c = true then n + 1 else n) (c + 1)
    show n ≤ cnt B k (if B.go c = true then n + 1 else n) (c + 1) ∧ cnt B k (if B.go c = true then n + 1 else n) (c + 1) ≤ n + ((k + 1 : Nat) : Int)
    by_cases g : B.go c = true
    · rw [if_pos g] at this ⊢; omega
    · rw [if_neg g] at this ⊢; omega
theorem cnt_none {B : Bo} : ∀ (k : Nat) (n c : Int), cnt B k n c = n ↔ ∀ j : Int, c ≤ j → j < c + (k : Int) → B.go j = false := by
  intro k
  induction k with
  | zero => intro n c; exact ⟨fun _ j a b => by omega, fun _ => rfl⟩
  | succ k ih =>
    intro n c
    show cnt B k (if B.go c = true then n + 1 else n) (c + 1) = n ↔ _
    cases hg : B.go c with
    | false =>
      rw [if_neg (by decide), ih]
      constructor
      · intro z j a b
        by_cases e : j = c
        · rw [e]; exact hg
        · exact z j (by omega) (by omega)
      · intro z j a b; exact z j (by omega) (by omega)
    | true =>
      rw [if_pos rfl]
      constructor
      · intro z; have := (cnt_ge (B := B) k (n + 1) (c + 1)).1; omega
      · intro z; have := z c (by omega) (by omega); rw [hg] at this; cases this
noncomputable def gob (B : Bo) : Int := goF B (2 * B.w).toNat 0 0
theorem c_goingBits {h : AH} {n d : Nat} {B : Bo} (H : BdH h n B) (O : BoOK B) : cal (d + 4) m_Bd_goingBits [(100, (n : Int))] h = some (gob B, h) := by
  have := O.w2
  rw [k_Bd_goingBits]
  exact c_go4 H O _ _ _ (by omega) (by omega)
theorem gob_bc {B : Bo} (O : BoOK B) : rBC (gob B) = cnt B (2 * B.w).toNat 0 0 ∧ 0 ≤ gob B ∧ gob B < 1024 := by
  have w5 := O.w5
  obtain ⟨a, b, c⟩ := goF_cnt (B := B) (2 * B.w).toNat 0 0 (by omega) (by omega) (by decide)
  have p : (2 ^ (0 + (2 * B.w).toNat) : Nat) ≤ 2 ^ 10 := Nat.pow_le_pow_right (by omega) (by omega)
  refine ⟨?_, b, Int.lt_of_lt_of_le c (by omega)⟩
  have e : rBC 0 = 0 := by decide +kernel
  rw [e] at a
  exact a
theorem gob_zero {B : Bo} (G : GB B) : gob B = 0 ↔ rh B = -1 := by
  have w2 := G.1.w2
  obtain ⟨a, b, c⟩ := gob_bc G.1
  have q := bc_one ⟨(gob B).toNat, by omega⟩
  simp only [Int.toNat_of_nonneg b] at q
  rw [rh_none G, show gob B = 0 ↔ (gob B).toNat = 0 by omega, ← q.1, a, cnt_none]
  constructor
  · intro z j x y; exact z j x (by omega)
  · intro z j x y; exact z j x (by omega)
section RB
variable {h : AH} {d : Nat} {B C : Bo} {le pl be to va br un ke la ma : Int}
theorem c_rashBoard {N : Int} (N0 : 0 ≤ N) (N1 : N ≤ 60) (G : GB B) (hm : B.m ≤ 999) (F : FoI h) (H : BdH h 11 B) : ∃ g : AH, cal (d + 8) m_Fo_rashBoard [(103, 20), (100, 11), (0, N)] h = some (22, g) ∧ FoI g ∧ BdH g 22 (rbF N.toNat B) ∧ BdH g 11 B ∧ Fr (fun j => 22 ≤ j ∧ j < 30) h g := by
  obtain ⟨D, hD, oD⟩ := F.2.2 0 (by omega)
  have hD : BdH h 22 D := hD
  have r0 : rdar 24 h 21 0 = some 22 := F.rd (by omega) (by omega)
  have cp : cal (d + 7) m_Bd_copy [(100, 22), (100, 11)] h = some (0, setB h 22 B) := c_copy (n := 22) (n' := 11) hD H oD G.1 (by omega)
  have T : Fr (fun j => 22 ≤ j ∧ j < 30) h (setB h 22 B) := fr_setB hD.lt (fun j a b => by omega)
  obtain ⟨g, a, b, c, e⟩ := c_rb12 (d := d) N1 N.toNat B 0 (9, 0) (setB h 22 B) G (by omega) (F.st (i := 0) (by omega) G.1) (bdH_set hD.lt) (by omega) (by omega)
  refine ⟨g, ?_, b, c, H.fr (T.tr e) (fun j a b => by omega), T.tr e⟩
  rw [k_Fo_rashBoard]
  simp only [F.r0, r0, cp, Option.bind_some]
  exact a
theorem m_rashOnes {N : Int} {R : List Int} (N0 : 0 ≤ N) (N1 : N ≤ 61) (G : GB C) (hm : C.m ≤ 999) (hh : h[108]? = some (7, hM le pl be to va br un ke la ma)) (e9 : h[109]? = some (20, row C)) (e16 : h[116]? = some (20, R)) (lR : R.length = 175) : ∃ (g' : AH) (la' : Int) (R' : List Int), cal (d + 7) m_Mo_rashOnes [(107, 108), (0, N)] h = some (rdn N.toNat C, g') ∧ g'[108]? = some (7, hM le pl be to va br un ke la' ma) ∧ g'[109]? = some (20, row (rbF N.toNat C)) ∧ g'[116]? = some (20, R') ∧ R'.length = 175 ∧ Fr (fun j => j = 108 ∨ j = 109 ∨ j = 116) h g' := by
  obtain ⟨R1, l1, ro⟩ := m_rashOne (d := d) G hh e9 e16 lR
  have T3 : Fr (fun j => j = 116) h (h.set 116 (20, R1)) := fr_set rfl
  have e164 : (h.set 116 (20, R1))[116]? = some (20, R1) := getS (gtl e16)
  generalize h.set 116 (20, R1) = g3 at ro T3 e164
  obtain ⟨g', la', R', x1, x2, x3, x4, x5, x6⟩ := m_rs7 (d := d) N1 N.toNat C 0 g3 la R1 G (by omega) (by rw [T3.g _ (by omega)]; exact hh) (by rw [T3.g _ (by omega)]; exact e9) e164 l1 (by omega) (by omega)
  refine ⟨g', la', R', ?_, x2, x3, x4, x5, (T3.wd (fun j z => by omega)).tr x6⟩
  rw [k_Mo_rashOnes, ro, Option.bind_some]
  rw [Int.zero_add] at x1
  exact x1
theorem m_lead (hh : h[108]? = some (7, hM le pl be to va br un ke la ma)) (e9 : h[109]? = some (20, row C)) (O : BoOK C) : cal (d + 1) m_Mo_lead [(107, 108)] h = some (C.b0 - C.b1, h) := by
  have M := MnH.of hh e9
  have := O.p0; have := O.p1; have := O.q0; have := O.q1
  have r1 : rdr 7 h 108 0 = some 109 := M.now
  have r2 : rda 20 h 109 2 = some C.b0 := M.rb0
  have r3 : rda 20 h 109 3 = some C.b1 := M.rb1
  rw [k_Mo_lead]
  simp only [r1, r2, r3, Option.bind_some]
  rw [sub_id (by omega) (by omega)]
end RB
/-- the model aside, rash, and back -/
theorem m_rashBack {h : AH} {C : Bo} {le pl be to va br un ke la ma : Int} {N : Int} (N0 : 0 ≤ N) (N1 : N ≤ 61) (G : GB C) (hm : C.m ≤ 999) (hh : h[108]? = some (7, hM le pl be to va br un ke la ma)) (e9 : h[109]? = some (20, row C)) (W : WoI h) : ∃ (g1 g2 g3 : AH) (la' : Int), cal 58 m_Mo_asides [(107, 108)] h = some (0, g1) ∧ cal 58 m_Mo_rashOnes [(107, 108), (0, N)] g1 = some (rdn N.toNat C, g2) ∧ cal 58 m_Mo_lead [(107, 108)] g2 = some ((rbF N.toNat C).b0 - (rbF N.toNat C).b1, g2) ∧ cal 58 m_Mo_backs [(107, 108)] g2 = some (0, g3) ∧ g3[108]? = some (7, hM le pl be to va br un ke la' ma) ∧ g3[109]? = some (20, row C) ∧ WoI g3 ∧ Fr (fun j => j = 108 ∨ j = 109 ∨ j = 115 ∨ j = 116) h g3 := by
  obtain ⟨w1, ⟨ys, w2, w2'⟩, ⟨R, w3, w3'⟩, w4, w5, w6, w7, w8, w9, w10⟩ := W
  have a1 : cal 58 m_Mo_asides [(107, 108)] h = some (0, h.set 115 (20, row C)) := m_asides hh e9 G.1 w2 w2'
  have T1 : Fr (fun j => j = 115) h (h.set 115 (20, row C)) := fr_set rfl
  have e15 : (h.set 115 (20, row C))[115]? = some (20, row C) := getS (gtl w2)
  generalize h.set 115 (20, row C) = g1 at a1 T1 e15
  obtain ⟨g2, la', R', x1, x2, x3, x4, x5, x6⟩ := m_rashOnes (d := 51) (R := R) N0 N1 G hm (show g1[108]? = some (7, hM le pl be to va br un ke la ma) by rw [T1.g _ (by omega)]; exact hh) (show g1[109]? = some (20, row C) by rw [T1.g _ (by omega)]; exact e9) (by rw [T1.g _ (by omega)]; exact w3) w3'
  have k := rb_ok N.toNat C G (by omega)
  have l := m_lead (d := 57) x2 x3 k.1.1
  have e152 : g2[115]? = some (20, row C) := by rw [x6.g _ (by omega)]; exact e15
  have b : cal 58 m_Mo_backs [(107, 108)] g2 = some (0, g2.set 109 (20, row C)) := m_backs x2 x3 (row_len k.1.1) e152 G.1
  have T3 : Fr (fun j => j = 109) g2 (g2.set 109 (20, row C)) := fr_set rfl
  have e93 : (g2.set 109 (20, row C))[109]? = some (20, row C) := getS (gtl x3)
  generalize g2.set 109 (20, row C) = g3 at b T3 e93
  have T : Fr (fun j => j = 108 ∨ j = 109 ∨ j = 115 ∨ j = 116) h g3 := ((T1.wd (fun j z => by omega)).tr (x6.wd (fun j z => by omega))).tr (T3.wd (fun j z => by omega))
  exact ⟨g1, g2, g3, la', a1, x1, l, b, by rw [T3.g _ (by omega)]; exact x2, e93, ⟨w1.fr T (by omega), ⟨row C, by rw [T3.g _ (by omega)]; exact e152, row_len G.1⟩, ⟨R', by rw [T3.g _ (by omega)]; exact x4, x5⟩, w4.fr T (by omega), w5.fr T (by omega), w6.fr T (by omega), w7.fr T (by omega), w8.fr T (by omega), w9.fr T (by omega), w10.fr T (by omega)⟩, T⟩
section OPS
variable {scr : List Int}
theorem op_rash (n : Int) : Op scr m_Ss_rash m_Mo_rash [(0, n)] := by
  intro h I
  obtain ⟨hl, hs, ho, le, un, ke, ma, B, C, iS, ⟨pl, be, to, va, br, la, hm⟩, iN, iT, iP, iK, iX, iF, iW, iI, iB⟩ := id I
  obtain ⟨H, e9, p⟩ := id iN
  obtain ⟨G1, G2, g3, E⟩ := id p
  have c1 : cal 58 m_Ss_isWithin [(0, n), (0, 0), (0, 40)] h = some (bI (decide (0 ≤ n ∧ n ≤ 40)), h) := c_within n 0 40
  have m1 : ∀ g : AH, cal 58 m_Mo_in [(2, n), (2, 0), (2, 40)] g = some (bI (decide (0 ≤ n ∧ n ≤ 40)), g) := fun g => m_in n 0 40
  by_cases hn : 0 ≤ n ∧ n ≤ 40
  · rw [bI_t hn] at c1 m1
    obtain ⟨g, a1, a2, a3, a4, a5⟩ := c_rashBoard (d := 50) hn.1 (show n ≤ 60 by omega) G1 g3 iF H
    have k := rb_ok n.toNat B G1 (by omega)
    have kc := rb_ok n.toNat C G2 (by rw [E.2.2.2.2.1]; omega)
    have ke' := rb_eq n.toNat B C E G1 G2 (by omega)
    have ld : cal 58 m_Bd_lead [(100, 22), (0, 0)] g = some ((rbF n.toNat B).b0 - (rbF n.toNat B).b1, g) := by
      have := c_lead (d := 57) (n := 22) a3 k.1.1 0
      rw [if_pos rfl] at this
      exact this
    obtain ⟨g1, g2, g4, la', x1, x2, x3, x4, x5, x6, x7, x8⟩ := m_rashBack (N := n) hn.1 (by omega) G2 (by rw [E.2.2.2.2.1]; exact g3) (show g[108]? = some (7, hM le pl be to va br un ke la ma) by rw [a5.g _ (by omega)]; exact hm) (show g[109]? = some (20, row C) by rw [a5.g _ (by omega)]; exact e9) (iW.fr a5 (by omega) (by omega) (fun j a b => by omega) (by omega) (by omega))
    rw [ke'.1.2.2.1, ke'.1.2.2.2.1] at x3
    refine ⟨a_add 5000 ((rbF n.toNat B).b0 - (rbF n.toNat B).b1), g, g4, ?_, by rw [a5.g _ (by omega)]; exact hs, ?_, ?_⟩
    · have a1 : cal 58 m_Fo_rashBoard [(103, 20), (100, 11), (0, n)] h = some (22, g) := a1
      rw [k_Ss_rash]
      simp only [c1, iS.r7, iS.r2, a1, ld, Option.bind_some]
      rfl
    · rw [k_Mo_rash]
      simp only [m1, x1, x2, x3, x4, Option.bind_some]
      rw [if_neg (by decide), if_neg (by omega)]
    · exact inv_fo (B := B) (C := C) hl hs ho iS iT iP iK iX iI iB ((a5.wd (fun j z => by omega)).tr (x8.wd (fun j z => by omega))) ⟨pl, be, to, va, br, la', x5⟩ ⟨a4.fr x8 (fun j a b => by omega), x6, p⟩ (a2.fr x8 (fun j a b => by omega)) x7
  · rw [bI_f hn] at c1 m1
    refine ⟨-3, h, h, ?_, hs, ?_, I⟩
    · rw [k_Ss_rash]
      simp only [c1, Option.bind_some]
      rfl
    · rw [k_Mo_rash]
      simp only [m1, Option.bind_some]
      rfl
theorem rdn_succ : ∀ (k : Nat) (B : Bo), (rh (rbF k B) = -1 → rdn (k + 1) B = rdn k B) ∧ (rh (rbF k B) ≠ -1 → rdn (k + 1) B = (k : Int) + 1) := by
  intro k
  induction k with
  | zero =>
    intro B
    show (rh B = -1 → (if rh B = -1 then (0 : Int) else 0 + 1) = 0) ∧ (rh B ≠ -1 → (if rh B = -1 then (0 : Int) else 0 + 1) = 0 + 1)
    exact ⟨fun z => if_pos z, fun z => if_neg z⟩
  | succ k ih =>
    intro B
    have e1 : rbF (k + 1) B = if rh B = -1 then B else rbF k (sow B (rh B)) := rfl
    have e2 : rdn (k + 1 + 1) B = if rh B = -1 then 0 else rdn (k + 1) (sow B (rh B)) + 1 := rfl
    have e3 : rdn (k + 1) B = if rh B = -1 then 0 else rdn k (sow B (rh B)) + 1 := rfl
    rw [e1, e2, e3]
    by_cases z : rh B = -1
    · rw [if_pos z, if_pos z, if_pos z]
      exact ⟨fun _ => rfl, fun y => absurd z y⟩
    · rw [if_neg z, if_neg z, if_neg z]
      refine ⟨fun y => by rw [(ih _).1 y], fun y => by rw [(ih _).2 y]; omega⟩
theorem op_over : Op scr m_Ss_over m_Mo_over [] := by
  intro h I
  obtain ⟨hl, hs, ho, le, un, ke, ma, B, C, iS, ⟨pl, be, to, va, br, la, hm⟩, iN, iT, iP, iK, iX, iF, iW, iI, iB⟩ := id I
  obtain ⟨H, e9, p⟩ := id iN
  obtain ⟨G1, G2, g3, E⟩ := id p
  obtain ⟨g, a1, a2, a3, a4, a5⟩ := c_rashBoard (d := 50) (N := 60) (by omega) (by omega) G1 g3 iF H
  have k := rb_ok 60 B G1 (by omega)
  have k61 := rb_ok 61 B G1 (by omega)
  have ke' := rb_eq 61 B C E G1 G2 (by omega)
  have m0 := G1.1.m0
  obtain ⟨g1, g2, g4, la', x1, x2, x3, x4, x5, x6, x7, x8⟩ := m_rashBack (N := 61) (by omega) (by omega) G2 (by rw [E.2.2.2.2.1]; exact g3) (show g[108]? = some (7, hM le pl be to va br un ke la ma) by rw [a5.g _ (by omega)]; exact hm) (show g[109]? = some (20, row C) by rw [a5.g _ (by omega)]; exact e9) (iW.fr a5 (by omega) (by omega) (fun j a b => by omega) (by omega) (by omega))
  have x2 : cal 58 m_Mo_rashOnes [(107, 108), (0, 61)] g1 = some (rdn 61 C, g2) := x2
  rw [ke'.2] at x2
  have a1 : cal 58 m_Fo_rashBoard [(103, 20), (100, 11), (0, 60)] h = some (22, g) := a1
  have a3 : BdH g 22 (rbF 60 B) := a3
  have gb : cal 58 m_Bd_goingBits [(100, 22)] g = some (gob (rbF 60 B), g) := c_goingBits (n := 22) a3 k.1.1
  have mv : cal 58 m_Bd_moves [(100, 22)] g = some ((rbF 60 B).m, g) := c_moves (n := 22) a3
  have mv2 : cal 58 m_Bd_moves [(100, 11)] g = some (B.m, g) := c_moves (n := 11) a4
  have sS := iS.fr a5 (by omega)
  have z0 := gob_zero k.1
  have rs := rdn_succ 60 B
  have J : Inv scr g4 := inv_fo (B := B) (C := C) hl hs ho iS iT iP iK iX iI iB ((a5.wd (fun j z => by omega)).tr (x8.wd (fun j z => by omega))) ⟨pl, be, to, va, br, la', x5⟩ ⟨a4.fr x8 (fun j a b => by omega), x6, p⟩ (a2.fr x8 (fun j a b => by omega)) x7
  have s0 : g[0]? = some (26, scr) := by rw [a5.g _ (by omega)]; exact hs
  by_cases z : rh (rbF 60 B) = -1
  · have e61 := rs.1 z
    refine ⟨rdn 60 B, g, g4, ?_, s0, ?_, J⟩
    · rw [k_Ss_over]
      simp only [iS.r7, iS.r2, a1, gb, mv, sS.r2, mv2, Option.bind_some]
      rw [if_pos (z0.mpr z), k.2.1, sub_id (by omega) (by omega)]
      congr 2
      omega
    · rw [k_Mo_over]
      simp only [x1, x2, x4, Option.bind_some]
      rw [e61, if_pos (by omega)]
  · have e61 := rs.2 z
    refine ⟨-1, g, g4, ?_, s0, ?_, J⟩
    · rw [k_Ss_over]
      simp only [iS.r7, iS.r2, a1, gb, Option.bind_some]
      rw [if_neg (fun y => z (z0.mp y))]
    · rw [k_Mo_over]
      simp only [x1, x2, x4, Option.bind_some]
      rw [e61, if_neg (by omega)]
end OPS
