/-! The model's luck. -/
theorem w64_id {x : Int} (h0 : -1000000000000000000 ≤ x) (h1 : x < 1000000000000000000) : w64 x = x := by rw [w64_def]; exact Int64.toInt_ofInt_of_le (by omega) (by omega)
theorem ladd_id {x y : Int} (h0 : -1000000000000000000 ≤ x + y) (h1 : x + y < 1000000000000000000) : a_ladd x y = x + y := by rw [a_ladd_def, w64_id h0 h1]
theorem lmul_id {x y : Int} (h0 : -1000000000000000000 ≤ x * y) (h1 : x * y < 1000000000000000000) : a_lmul x y = x * y := by rw [a_lmul_def, w64_id h0 h1]
theorem toLL {x : Int} (h0 : -1000000000000000000 ≤ x) (h1 : x < 1000000000000000000) : (Int64.ofInt x).toInt = x := Int64.toInt_ofInt_of_le (by omega) (by omega)
theorem ldiv_id {x y : Int} (hp : 0 ≤ x) (hx : x < 1000000000000000000) (hq : 0 < y) (hy : y < 1000000000000000000) : a_ldiv x y = x / y := by
  have h1 : 0 ≤ x / y := Int.ediv_nonneg hp (by omega)
  have h2 : x / y ≤ x := Int.ediv_le_self y hp
  rw [a_ldiv_def, Int64.toInt_div, toLL (by omega) hx, toLL (by omega) hy, Int.tdiv_eq_ediv_of_nonneg hp]
  exact Int.bmod_eq_of_le (by omega) (by omega)
theorem lrem_id {x y : Int} (hp : 0 ≤ x) (hx : x < 1000000000000000000) (hq : 0 < y) (hy : y < 1000000000000000000) : a_lrem x y = x % y := by
  have h1 : 0 ≤ x / y := Int.ediv_nonneg hp (by omega)
  have h2 : x / y ≤ x := Int.ediv_le_self y hp
  have h3 : x / y * y + x % y = x := Int.ediv_mul_add_emod x y
  have h4 : 0 ≤ x % y := Int.emod_nonneg x (by omega)
  have h5 : x % y < y := Int.emod_lt_of_pos x hq
  have h6 : 0 ≤ x / y * y := Int.mul_nonneg h1 (by omega)
  have e : (Int64.ofInt x / Int64.ofInt y).toInt = x / y := by rw [← a_ldiv_def]; exact ldiv_id hp hx hq hy
  have e2 : (Int64.ofInt x / Int64.ofInt y * Int64.ofInt y).toInt = x / y * y := by
    rw [Int64.toInt_mul, e, toLL (by omega) hy]
    exact Int.bmod_eq_of_le (by omega) (by omega)
  rw [a_lrem_def, Int64.toInt_sub, e2, toLL (by omega) hx, show x - x / y * y = x % y by omega]
  exact Int.bmod_eq_of_le (by omega) (by omega)
section MVT
variable {d : Nat} {X : Bo} {g : AH}
theorem m_mt4 (M : MnH g 108 X) (O : BoOK X) : ∀ (k : Nat) (x c : Int), 0 ≤ c → c + (k : Int) = 2 * X.w → 0 ≤ x → x ≤ c → run (d + 4) m_Mo_movesThere 4 [(107, 108), (0, x), (0, c)] [] g = some (cnt X k x c, g) := by
  have w5 := O.w5
  have w2 := O.w2
  have r1 : rdr 7 g 108 0 = some 109 := M.now
  have r2 : rda 20 g 109 0 = some X.w := M.rw0
  intro k
  induction k with
  | zero => intro x c c0 cn x0 xc; rw [k_Mo_movesThere_4, r1, Option.bind_some, r2, Option.bind_some, mul_id (by omega) (by omega), if_neg (by omega)]; rfl
  | succ k ih =>
    intro x c c0 cn x0 xc
    have cg : cal (d + 3) m_Mo_canGo [(107, 108), (0, c)] g = some (bI (X.go c), g) := m_canGo (q := 108) M O c0 (by omega)
    rw [k_Mo_movesThere_4, r1, Option.bind_some, r2, Option.bind_some, mul_id (by omega) (by omega), if_pos (by omega), cg, Option.bind_some, add_id (x := x) (y := 0) (by omega) (by omega), add_id (x := x) (y := 1) (by omega) (by omega), add_id (x := c) (by omega) (by omega), Int.add_zero]
    show _ = some (cnt X k (if X.go c = true then x + 1 else x) (c + 1), g)
    cases hg : X.go c with
    | false => rw [if_pos (show bI false = 0 from rfl), if_neg (by decide)]; exact ih _ _ (by omega) (by omega) x0 (by omega)
    | true => rw [if_neg (show ¬ bI true = 0 by decide), if_pos rfl]; exact ih _ _ (by omega) (by omega) (by omega) (by omega)
theorem m_movesThere (M : MnH g 108 X) (O : BoOK X) : cal (d + 4) m_Mo_movesThere [(107, 108)] g = some (ways X, g) := by
  have w2 := O.w2
  rw [k_Mo_movesThere]
  exact m_mt4 M O _ _ _ (by omega) (by omega) (by omega) (by omega)
end MVT
section LUCK
variable {n0 n : Nat} {q : Hd} {part side below : Int}
theorem WS.wd {g : AH} {s s' : Wt} (W : WS g q s) (a : s' = s) : WS g q s' := a ▸ W
theorem m_l87 {g : AH} {s : Wt} {X : Bo} {t : Nat} {ab : Int} {v10 v11 : AV} (sd01 : side = 0 ∨ side = 1) (W : WS g q s) (t6 : t < 6) (A : At s.R (25 * t) (row X)) (O : BoOK X) : ∃ (g' : AH) (s' : Wt), run (n0 + 5) m_Mo_luck 87 [(107, 108), (0, (n : Int)), (0, part), (0, side), (0, 2 * X.w), (2, below), (8, 0), (2, ab), (8, 0), (0, (t : Int)), v10, v11] [] g = run (n0 + 5) m_Mo_luck 135 [(107, 108), (0, (n : Int)), (0, part), (0, side), (0, 2 * X.w), (2, below), (8, 0), (2, ab), (8, 0), (0, (t : Int)), (0, ways X), v11] [(0, if 0 < lds X side then 1 else 0)] g' ∧ WS g' q s' ∧ s'.ys = row X ∧ s'.R = s.R ∧ s'.ho = s.ho ∧ s'.ls = s.ls ∧ s'.il = s.il ∧ s'.li = s.li ∧ Fr W0 g g' := by
  obtain ⟨g1, s1, a1, W1, y1, r1, r2, r3, r4, r5, T1⟩ := m_lay (n0 := n0) W t6 A O
  have mt : cal (n0 + 4) m_Mo_movesThere [(107, 108)] g1 = some (ways X, g1) := m_movesThere (W1.mn y1) O
  have ml : cal (n0 + 4) m_Mo_lead [(107, 108)] g1 = some (X.b0 - X.b1, g1) := m_lead W1.h (by rw [← y1]; exact W1.y) O
  refine ⟨g1, s1, ?_, W1, y1, r1, r2, r3, r4, r5, T1⟩
  rw [k_Mo_luck_87, if_neg (by omega)]
  simp only [a1, mt, ml, Option.bind_some]
  unfold lds
  rcases sd01 with z | z
  · subst z
    rw [if_pos rfl, if_pos rfl]
    by_cases y : 0 < X.b0 - X.b1
    · rw [if_pos y, if_pos y]
    · rw [if_neg y, if_neg y]
  · subst z
    rw [if_neg (show ¬ (1 : Int) = 0 by decide), if_neg (show ¬ (1 : Int) = 0 by decide)]
    by_cases y : X.b0 - X.b1 < 0
    · rw [if_pos y, if_pos (by omega)]
    · rw [if_neg y, if_neg (by omega)]
def W6 (j : Nat) : Prop := j = 108 ∨ j = 109 ∨ (116 ≤ j ∧ j < 122)
theorem w06 {h h' : AH} (F : Fr W0 h h') : Fr W6 h h' := F.wd (fun j z => by unfold W0 at z; unfold W6; omega)
theorem m_leaf {g : AH} {X : Bo} {s : Wt} {t : Nat} {ab w : Int} {wt : List Int} {v11 : AV} (W : WS g q s) (ew : g[121]? = some (23, wt)) (hw : wt[t]? = some w) (w0 : 0 ≤ w) (w1 : w ≤ 216000) (a0 : 0 ≤ ab) (a1 : ab ≤ 1000000000) (t6 : t < 6) (hz : t = n ∨ ways X = 0) : ∃ v v' : AV, run (n0 + 5) m_Mo_luck 135 [(107, 108), (0, (n : Int)), (0, part), (0, side), (0, 2 * X.w), (2, below), (8, 0), (2, ab), (8, 0), (0, (t : Int)), (0, ways X), v11] [(0, if 0 < lds X side then 1 else 0)] g = run (n0 + 5) m_Mo_luck 87 [(107, 108), (0, (n : Int)), (0, part), (0, side), (0, 2 * X.w), (2, below), (8, 0), (2, ab + (if 0 < lds X side then w else 0)), (8, 0), (0, (t : Int) - 1), v, v'] [] g := by
  have r1 : rdr 7 g 108 21 = some 121 := hq W rfl (by omega)
  have r2 : rda 23 g 121 (t : Int) = some w := (rda_n (n := 121) ew t).trans hw
  have E : run (n0 + 5) m_Mo_luck 135 [(107, 108), (0, (n : Int)), (0, part), (0, side), (0, 2 * X.w), (2, below), (8, 0), (2, ab), (8, 0), (0, (t : Int)), (0, ways X), v11] [(0, if 0 < lds X side then 1 else 0)] g = run (n0 + 5) m_Mo_luck 148 [(107, 108), (0, (n : Int)), (0, part), (0, side), (0, 2 * X.w), (2, below), (8, 0), (2, ab), (8, 0), (0, (t : Int)), (0, ways X), (0, if 0 < lds X side then 1 else 0)] [] g := by
    rw [k_Mo_luck_135]
    by_cases z : (t : Int) = (n : Int)
    · rw [if_pos z]
    · rw [if_neg z, if_pos (hz.resolve_left (by omega))]
  rw [E, k_Mo_luck_148, add_id (by omega) (by omega)]
  by_cases z : 0 < lds X side
  · refine ⟨(0, ways X), (0, 1), ?_⟩
    rw [if_pos z, if_neg (by decide), r1, Option.bind_some, r2, Option.bind_some, ladd_id (by omega) (by omega), k_Mo_luck_276, if_pos z]
    rfl
  · refine ⟨(0, ways X), (0, 0), ?_⟩
    rw [if_neg z, if_pos rfl, ladd_id (by omega) (by omega), k_Mo_luck_276, if_neg z]
    rfl
def LSub (q : Hd) (n0 n : Nat) (part side below : Int) (l : Nat) : Prop := ∀ (t : Nat) (Y : Bo) (s : Wt) (g : AH) (wt : List Int) (w ab : Int) (v10 v11 : AV), t + l = n → n ≤ 3 → GB Y → Y.m + (l : Int) ≤ 1100 → WS g q s → At s.R (25 * t) (row Y) → s.ho[t]? = some 0 → g[121]? = some (23, wt) → wt.length = 6 → wt[t]? = some w → 0 ≤ w → w ≤ 216000 → 0 ≤ ab → ab + 2400000 * (l : Int) ≤ 900000000 → ∃ (g' : AH) (s' : Wt) (wt' : List Int) (v v' : AV), run (n0 + 5) m_Mo_luck 87 [(107, 108), (0, (n : Int)), (0, part), (0, side), (0, 2 * Y.w), (2, below), (8, 0), (2, ab), (8, 0), (0, (t : Int)), v10, v11] [] g = run (n0 + 5) m_Mo_luck 87 [(107, 108), (0, (n : Int)), (0, part), (0, side), (0, 2 * Y.w), (2, below), (8, 0), (2, ab + cl l Y w side), (8, 0), (0, (t : Int) - 1), v, v'] [] g' ∧ WS g' q s' ∧ Lo t s s' ∧ g'[121]? = some (23, wt') ∧ wt'.length = 6 ∧ (∀ j, j ≤ t → wt'[j]? = wt[j]?) ∧ Fr W6 g g' ∧ At s'.R (25 * t) (row Y)
theorem m_lLoop {l : Nat} {X : Bo} {t : Nat} {w : Int} (sd01 : side = 0 ∨ side = 1) (SB : LSub q n0 n part side below l) (tl : t + (l + 1) = n) (n3 : n ≤ 3) (G : GB X) (hm : X.m + ((l + 1 : Nat) : Int) ≤ 1100) (w0 : 0 ≤ w) (w1 : w ≤ 216000) (wz : ways X ≠ 0) : ∀ (k : Nat) (c ab : Int) (s : Wt) (g : AH) (wt : List Int) (v10 v11 : AV), 0 ≤ c → c + (k : Int) = 2 * X.w → WS g q s → At s.R (25 * t) (row X) → s.ho[t]? = some c → g[121]? = some (23, wt) → wt.length = 6 → wt[t]? = some w → 0 ≤ ab → ab + 216000 * (k : Int) + 2400000 * (l : Int) ≤ 900000000 → ∃ (g' : AH) (s' : Wt) (wt' : List Int) (v v' : AV), run (n0 + 5) m_Mo_luck 87 [(107, 108), (0, (n : Int)), (0, part), (0, side), (0, 2 * X.w), (2, below), (8, 0), (2, ab), (8, 0), (0, (t : Int)), v10, v11] [] g = run (n0 + 5) m_Mo_luck 87 [(107, 108), (0, (n : Int)), (0, part), (0, side), (0, 2 * X.w), (2, below), (8, 0), (2, smF X.go (fun i => cl l (sow X i) (w / ways X) side) k c ab), (8, 0), (0, (t : Int) - 1), v, v'] [] g' ∧ WS g' q s' ∧ Lo t s s' ∧ g'[121]? = some (23, wt') ∧ wt'.length = 6 ∧ (∀ j, j ≤ t → wt'[j]? = wt[j]?) ∧ Fr W6 g g' ∧ At s'.R (25 * t) (row X) := by
  have O := G.ok
  have w5 := O.w5
  have wr := ways_5 O
  have q0 : 0 ≤ w / ways X := Int.ediv_nonneg w0 (by omega)
  have q1 : w / ways X ≤ w := Int.ediv_le_self _ w0
  intro k
  induction k with
  | zero =>
    intro c ab s g wt v10 v11 c0 cn W A hc ew lw hw a0 a1
    obtain ⟨g1, s1, E1, W1, y1, r1, r2, r3, r4, r5, T1⟩ := m_l87 (n0 := n0) (n := n) (part := part) (below := below) (ab := ab) (v10 := v10) (v11 := v11) sd01 W (show t < 6 by omega) A O
    have N0 : ¬ W0 121 := by unfold W0; omega
    have rh : rdr 7 g1 108 16 = some 117 := hq W1 rfl (by omega)
    have rc : rda 20 g1 117 (t : Int) = some c := (rda_n (n := 117) W1.o t).trans (by rw [r2]; exact hc)
    refine ⟨g1, s1, wt, (0, ways X), (0, if 0 < lds X side then 1 else 0), ?_, W1, lo_eq r1 r2 r3 r4 r5, by rw [T1.g _ N0]; exact ew, lw, fun j _ => rfl, w06 T1, by rw [r1]; exact A⟩
    rw [E1, k_Mo_luck_135, if_neg (by omega), if_neg wz, rh, Option.bind_some, rc, Option.bind_some, if_pos (by omega), k_Mo_luck_276, add_id (by omega) (by omega)]
    rfl
  | succ k ih =>
    intro c ab s g wt v10 v11 c0 cn W A hc ew lw hw a0 a1
    obtain ⟨g1, s1, E1, W1, y1, r1, r2, r3, r4, r5, T1⟩ := m_l87 (n0 := n0) (n := n) (part := part) (below := below) (ab := ab) (v10 := v10) (v11 := v11) sd01 W (show t < 6 by omega) A O
    have N0 : ∀ j, ¬ (j = 108 ∨ j = 109 ∨ (116 ≤ j ∧ j < 121)) → ¬ W0 j := fun j z => z
    have rh : rdr 7 g1 108 16 = some 117 := hq W1 rfl (by omega)
    have hc1 : s1.ho[t]? = some c := by rw [r2]; exact hc
    have rc : rda 20 g1 117 (t : Int) = some c := (rda_n (n := 117) W1.o t).trans hc1
    have cg : cal (n0 + 4) m_Mo_canGo [(107, 108), (0, c)] g1 = some (bI (X.go c), g1) := m_canGo (q := 108) (W1.mn y1) O c0 (by omega)
    have ew1 : g1[121]? = some (23, wt) := by rw [T1.g _ (N0 _ (by omega))]; exact ew
    have A1 : At s1.R (25 * t) (row X) := by rw [r1]; exact A
    have E2 : ∀ Z : AR, (if bI (X.go c) = 0 then (rdr 7 g1 108 16).bind (fun y6 => (rda 20 g1 y6 (t : Int)).bind (fun y7 => (wra 20 g1 y6 (t : Int) (a_add y7 1)).bind (fun h8 => run (n0 + 5) m_Mo_luck 276 [(107, 108), (0, (n : Int)), (0, part), (0, side), (0, 2 * X.w), (2, below), (8, 0), (2, ab), (8, 0), (0, (t : Int)), (0, ways X), (0, if 0 < lds X side then 1 else 0)] [] h8))) else (rdr 7 g1 108 21).bind (fun y9 => (rdr 7 g1 108 21).bind (fun y10 => (rda 23 g1 y10 (t : Int)).bind (fun y11 => (if ways X = 0 then none else (wra 23 g1 y9 (a_add (t : Int) 1) (a_ldiv y11 (ways X))).bind (fun h12 => (rdr 7 h12 108 16).bind (fun y13 => (rda 20 h12 y13 (t : Int)).bind (fun y14 => (cal (n0 + 4) m_Mo_goes [(107, 108), (0, y14)] h12).bind (fun q15 => (cal (n0 + 4) m_Mo_noted [(107, 108), (0, q15.1)] q15.2).bind (fun q16 => (rdr 7 q16.2 108 16).bind (fun y17 => (rda 20 q16.2 y17 (t : Int)).bind (fun y18 => (wra 20 q16.2 y17 (t : Int) (a_add y18 1)).bind (fun h19 => (cal (n0 + 4) m_Mo_begins [(107, 108), (0, a_add (t : Int) 1)] h19).bind (fun q20 => run (n0 + 5) m_Mo_luck 276 [(107, 108), (0, (n : Int)), (0, part), (0, side), (0, 2 * X.w), (2, below), (8, 0), (2, ab), (8, 0), (0, a_add (t : Int) 1), (0, ways X), (0, if 0 < lds X side then 1 else 0)] [] q20.2)))))))))))))) = Z → run (n0 + 5) m_Mo_luck 87 [(107, 108), (0, (n : Int)), (0, part), (0, side), (0, 2 * X.w), (2, below), (8, 0), (2, ab), (8, 0), (0, (t : Int)), v10, v11] [] g = Z := by
      intro Z hZ
      rw [E1, k_Mo_luck_135, if_neg (by omega), if_neg wz, rh, Option.bind_some, rc, Option.bind_some, if_neg (by omega), Option.bind_some, rc, Option.bind_some, cg, Option.bind_some]
      exact hZ
    have hs : smF X.go (fun i => cl l (sow X i) (w / ways X) side) (k + 1) c ab = smF X.go (fun i => cl l (sow X i) (w / ways X) side) k (c + 1) (if X.go c = true then ab + cl l (sow X c) (w / ways X) side else ab) := rfl
    rw [hs]
    have o1 := W1.lo
    cases hg : X.go c with
    | false =>
      obtain ⟨W2, T2⟩ := W1.s17 (xs := s1.ho.set t (c + 1)) (by rw [List.length_set]; exact W1.lo)
      have w17 : wra 20 g1 117 (t : Int) (c + 1) = some (g1.set 117 (20, s1.ho.set (t : Int).toNat (c + 1))) := wra_i (n := 117) W1.o (by omega) (by rw [Int.toNat_natCast]; omega) _
      rw [Int.toNat_natCast] at w17
      generalize g1.set 117 (20, s1.ho.set t (c + 1)) = g2 at w17 W2 T2
      have LL : Lo t s1 (mkW s1.la s1.ys s1.R (s1.ho.set t (c + 1)) s1.ls s1.il s1.li) := ⟨fun j _ => rfl, fun j hj => ⟨List.getElem?_set_ne (by omega), rfl, rfl⟩, fun j _ => rfl⟩
      obtain ⟨g', s', wt', v, v', b1, b2, b3, b4, b5, b6, b7, b8⟩ := ih (c + 1) ab _ g2 wt (0, ways X) (0, if 0 < lds X side then 1 else 0) (by omega) (by omega) W2 A1 (List.getElem?_set_self (by omega)) (by rw [T2.g _ (N0 _ (by omega))]; exact ew1) lw hw a0 (by omega)
      refine ⟨g', s', wt', v, v', ?_, b2, ((lo_eq r1 r2 r3 r4 r5).tr LL).tr b3, b4, b5, b6, ((w06 T1).tr (w06 T2)).tr b7, b8⟩
      rw [if_neg (by decide)]
      refine E2 _ ?_
      rw [hg, if_pos (show bI false = 0 from rfl), rh, Option.bind_some, rc, Option.bind_some, add_id (by omega) (by omega), w17, Option.bind_some, k_Mo_luck_276]
      exact b1
    | true =>
      have c2w : c < 2 * X.w := by omega
      have GS := G.sw (show X.m < 1100 by omega) c0 c2w
      have sw := sow_w G c0 c2w
      have mm : (sow X c).m = X.m + 1 := rfl
      have rw' : rdr 7 g1 108 21 = some 121 := hq W1 rfl (by omega)
      have rwt : rda 23 g1 121 (t : Int) = some w := (rda_n (n := 121) ew1 t).trans hw
      have ww : wra 23 g1 121 ((t : Int) + 1) (w / ways X) = some (g1.set 121 (23, wt.set ((t : Int) + 1).toNat (w / ways X))) := wra_i (n := 121) ew1 (by omega) (by omega) _
      rw [show ((t : Int) + 1).toNat = t + 1 by omega] at ww
      have T2 : Fr (fun j => j = 121) g1 (g1.set 121 (23, wt.set (t + 1) (w / ways X))) := fr_set rfl
      have ew2 : (g1.set 121 (23, wt.set (t + 1) (w / ways X)))[121]? = some (23, wt.set (t + 1) (w / ways X)) := getS (gtl ew1)
      have W2 : WS (g1.set 121 (23, wt.set (t + 1) (w / ways X))) q s1 := ⟨by rw [getN (by omega)]; exact W1.h, by rw [getN (by omega)]; exact W1.y, by rw [getN (by omega)]; exact W1.r, by rw [getN (by omega)]; exact W1.o, by rw [getN (by omega)]; exact W1.l, by rw [getN (by omega)]; exact W1.i, by rw [getN (by omega)]; exact W1.n, W1.ly, W1.lr, W1.lo, W1.ll, W1.lI, W1.ln⟩
      generalize g1.set 121 (23, wt.set (t + 1) (w / ways X)) = g2 at ww T2 ew2 W2
      have rh2 : rdr 7 g2 108 16 = some 117 := hq W2 rfl (by omega)
      have rc2 : rda 20 g2 117 (t : Int) = some c := (rda_n (n := 117) W2.o t).trans hc1
      have go : cal (n0 + 4) m_Mo_goes [(107, 108), (0, c)] g2 = some (brg X c, g2.set 109 (20, row (sow X c))) := m_goes (q := 108) (W2.mn y1) O G.bb c0 c2w
      obtain ⟨W3, T3⟩ := W2.s9 (xs := row (sow X c)) (row_len GS.1)
      generalize g2.set 109 (20, row (sow X c)) = g3 at go W3 T3
      have nt : cal (n0 + 4) m_Mo_noted [(107, 108), (0, brg X c)] g3 = some (0, g3.set 108 (7, q.row (brg X c))) := by
        rw [k_Mo_noted, hmw W3.h (by simp [Hd.row, hM]) _]; rfl
      obtain ⟨W4, T4⟩ := W3.s8 (brg X c)
      generalize g3.set 108 (7, q.row (brg X c)) = g4 at nt W4 T4
      have rh4 : rdr 7 g4 108 16 = some 117 := hq W4 rfl (by omega)
      have rc4 : rda 20 g4 117 (t : Int) = some c := (rda_n (n := 117) W4.o t).trans hc1
      have w17 : wra 20 g4 117 (t : Int) (c + 1) = some (g4.set 117 (20, s1.ho.set (t : Int).toNat (c + 1))) := wra_i (n := 117) W4.o (by omega) (by show (t : Int).toNat < s1.ho.length; omega) _
      rw [Int.toNat_natCast] at w17
      obtain ⟨W5, T5⟩ := W4.s17 (xs := s1.ho.set t (c + 1)) (by rw [List.length_set]; exact W1.lo)
      generalize g4.set 117 (20, s1.ho.set t (c + 1)) = g5 at w17 W5 T5
      obtain ⟨g6, s6, d1, W6', d2, Bg, L6, T6⟩ := m_begins (d := n0 + 3) (t := t + 1) (X := sow X c) W5 rfl (by omega)
      have d1 : cal (n0 + 4) m_Mo_begins [(107, 108), (0, ((t + 1 : Nat) : Int))] g5 = some (0, g6) := d1
      have ew6 : g6[121]? = some (23, wt.set (t + 1) (w / ways X)) := by rw [T6.g _ (N0 _ (by omega)), T5.g _ (N0 _ (by omega)), T4.g _ (N0 _ (by omega)), T3.g _ (N0 _ (by omega))]; exact ew2
      have cr := cl_r l (sow X c) (w / ways X) side q0
      obtain ⟨g7, s7, wt7, v, v', e1, W7, L7, e3, e4, e5, T7, -⟩ := SB (t + 1) (sow X c) s6 g6 (wt.set (t + 1) (w / ways X)) (w / ways X) ab (0, ways X) (0, if 0 < lds X side then 1 else 0) (by omega) n3 GS (by rw [mm]; omega) W6' Bg.1 Bg.2.1 ew6 (by rw [List.length_set]; exact lw) (List.getElem?_set_self (by omega)) q0 (by omega) a0 (by omega)
      rw [sw] at e1
      have LA : Lo t s1 (mkW (brg X c) (row (sow X c)) s1.R (s1.ho.set t (c + 1)) s1.ls s1.il s1.li) := ⟨fun j _ => rfl, fun j hj => ⟨List.getElem?_set_ne (by omega), rfl, rfl⟩, fun j _ => rfl⟩
      have L57 : Lo (t + 1) (mkW (brg X c) (row (sow X c)) s1.R (s1.ho.set t (c + 1)) s1.ls s1.il s1.li) s7 := Lo.tr (show Lo (t + 1) (mkW (brg X c) (row (sow X c)) s1.R (s1.ho.set t (c + 1)) s1.ls s1.il s1.li) s6 from L6) L7
      have A7 : At s7.R (25 * t) (row X) := fun j hj => by
        rw [L57.1 _ (by omega)]; exact A1 j hj
      have hc7 : s7.ho[t]? = some (c + 1) := by
        rw [(L57.2.1 t (by omega)).1]
        exact List.getElem?_set_self (by omega)
      obtain ⟨g', s', wt', u, u', b1, b2, b3, b4, b5, b6, b7, b8⟩ := ih (c + 1) (ab + cl l (sow X c) (w / ways X) side) s7 g7 wt7 v v' (by omega) (by omega) W7 A7 hc7 e3 e4 (by rw [e5 t (by omega), List.getElem?_set_ne (by omega)]; exact hw) (by omega) (by omega)
      refine ⟨g', s', wt', u, u', ?_, b2, (((lo_eq r1 r2 r3 r4 r5).tr LA).tr (L57.dn (by omega))).tr b3, b4, b5, fun j hj => ?_, ?_, b8⟩
      · rw [if_pos rfl]
        refine E2 _ ?_
        rw [hg, if_neg (show ¬ bI true = 0 by decide), rw', Option.bind_some, Option.bind_some, rwt, Option.bind_some, if_neg wz, add_id (x := (t : Int)) (by omega) (by omega), ldiv_id w0 (by omega) (by omega) (by omega), ww]
        simp only [rh2, rc2, go, nt, rh4, rc4, Option.bind_some]
        rw [add_id (x := c) (by omega) (by omega), w17, Option.bind_some, show (t : Int) + 1 = ((t + 1 : Nat) : Int) by omega, d1, Option.bind_some, k_Mo_luck_276]
        refine e1.trans ?_
        rw [show ((t + 1 : Nat) : Int) - 1 = (t : Int) by omega]
        exact b1
      · rw [b6 j hj, e5 j (by omega), List.getElem?_set_ne (by omega)]
      · exact (((((((w06 T1).tr (T2.wd (fun j z => by unfold W6; omega))).tr (w06 T3)).tr (w06 T4)).tr (w06 T5)).tr (w06 T6)).tr T7).tr b7
theorem lsub_all (sd01 : side = 0 ∨ side = 1) : ∀ l : Nat, LSub q n0 n part side below l := by
  intro l
  induction l with
  | zero =>
    intro t Y s g wt w ab v10 v11 tl n3 G hm W A hc ew lw hw w0 w1 a0 a1
    obtain ⟨g1, s1, E1, W1, y1, r1, r2, r3, r4, r5, T1⟩ := m_l87 (n0 := n0) (n := n) (part := part) (below := below) (ab := ab) (v10 := v10) (v11 := v11) sd01 W (show t < 6 by omega) A G.1
    have N0 : ¬ W0 121 := by unfold W0; omega
    have ew1 : g1[121]? = some (23, wt) := by rw [T1.g _ N0]; exact ew
    obtain ⟨v, v', E2⟩ := m_leaf (n0 := n0) (n := n) (part := part) (side := side) (below := below) (X := Y) (v11 := v11) W1 ew1 hw w0 w1 a0 (show ab ≤ 1000000000 by omega) (by omega) (Or.inl (by omega))
    exact ⟨g1, s1, wt, v, v', E1.trans E2, W1, lo_eq r1 r2 r3 r4 r5, ew1, lw, fun j _ => rfl, w06 T1, by rw [r1]; exact A⟩
  | succ l ih =>
    intro t Y s g wt w ab v10 v11 tl n3 G hm W A hc ew lw hw w0 w1 a0 a1
    have w2 := G.1.w2
    have w5 := G.1.w5
    by_cases z : ways Y = 0
    · obtain ⟨g1, s1, E1, W1, y1, r1, r2, r3, r4, r5, T1⟩ := m_l87 (n0 := n0) (n := n) (part := part) (below := below) (ab := ab) (v10 := v10) (v11 := v11) sd01 W (show t < 6 by omega) A G.1
      have N0 : ¬ W0 121 := by unfold W0; omega
      have ew1 : g1[121]? = some (23, wt) := by rw [T1.g _ N0]; exact ew
      obtain ⟨v, v', E2⟩ := m_leaf (n0 := n0) (n := n) (part := part) (side := side) (below := below) (X := Y) (v11 := v11) W1 ew1 hw w0 w1 a0 (show ab ≤ 1000000000 by omega) (by omega) (Or.inr z)
      have ec : cl (l + 1) Y w side = if 0 < lds Y side then w else 0 := by
        show (if ways Y = 0 then _ else _) = _
        rw [if_pos z]
      rw [ec]
      exact ⟨g1, s1, wt, v, v', E1.trans E2, W1, lo_eq r1 r2 r3 r4 r5, ew1, lw, fun j _ => rfl, w06 T1, by rw [r1]; exact A⟩
    · obtain ⟨g', s', wt', v, v', b1, b2, b3, b4, b5, b6, b7, b8⟩ := m_lLoop sd01 ih tl n3 G hm w0 w1 z (2 * Y.w).toNat 0 ab s g wt v10 v11 (by omega) (by omega) W A hc ew lw hw a0 (by omega)
      have ec : ab + cl (l + 1) Y w side = smF Y.go (fun i => cl l (sow Y i) (w / ways Y) side) (2 * Y.w).toNat 0 ab := by
        have e1 : cl (l + 1) Y w side = smF Y.go (fun i => cl l (sow Y i) (w / ways Y) side) (2 * Y.w).toNat 0 0 := by
          show (if ways Y = 0 then _ else _) = _
          rw [if_neg z]
        have sh : ∀ (k : Nat) (c x y : Int), smF Y.go (fun i => cl l (sow Y i) (w / ways Y) side) k c (x + y) = x + smF Y.go (fun i => cl l (sow Y i) (w / ways Y) side) k c y := by
          intro k
          induction k with
          | zero => intro c x y; rfl
          | succ k ih2 =>
            intro c x y
            show smF _ _ k (c + 1) (if Y.go c = true then x + y + _ else x + y) = x + smF _ _ k (c + 1) (if Y.go c = true then y + _ else y)
            by_cases h : Y.go c = true
            · rw [if_pos h, if_pos h, Int.add_assoc]; exact ih2 _ _ _
            · rw [if_neg h, if_neg h]; exact ih2 _ _ _
        have := sh (2 * Y.w).toNat 0 ab 0
        rw [Int.add_zero] at this
        rw [this, e1]
      rw [ec]
      exact ⟨g', s', wt', v, v', b1, b2, b3, b4, b5, b6, b7, b8⟩
end LUCK
