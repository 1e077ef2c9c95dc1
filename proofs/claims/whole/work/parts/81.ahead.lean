/-! The model looks ahead. -/
theorem sow_w {B : Bo} {i : Int} (G : GB B) (h0 : 0 ≤ i) (h1 : i < 2 * B.w) : (sow B i).w = B.w := by
  have hb := G.bb (s := B.t)
  obtain ⟨-, SC, -, -⟩ := sowC_ok G.1 (by omega) h0 h1
  exact SC.1
theorem Lev.lo {t : Nat} {X : Bo} {c m ms : Int} {l : Nat} {s s' : Wt} (V : Lev t X c m ms l s) (L : Lo (t + 1) s s') : Lev t X c m ms l s' := by
  obtain ⟨v1, v2, v3, v4, v5, v6⟩ := V
  have q := L.2.1 t (by omega)
  refine ⟨fun k hk => by rw [L.1 _ (by omega)]; exact v1 k hk, by rw [q.1]; exact v2, by rw [q.2.2]; exact v3, fun z => by rw [q.2.1]; exact v4 z, fun k a b => by rw [L.2.2 _ (by omega)]; exact v5 k a b, v6⟩
section LA
variable {n0 D : Nat} {q : Hd}
def Sub (q : Hd) (n0 D l : Nat) : Prop := ∀ (t : Nat) (Y : Bo) (s : Wt) (g : AH) (v : AV), 1 ≤ t → t + l = D → D ≤ 5 → GB Y → Y.m + (l : Int) ≤ 1100 → WS g q s → Beg t Y s → ∃ (g' : AH) (s' : Wt), run (n0 + 5) m_Mo_looksAhead 16 [(107, 108), (0, (D : Int)), (0, (t : Int)), (0, 2 * Y.w), v] [] g = (cal (n0 + 4) m_Mo_ends [(107, 108), (0, (t : Int) + -1), (0, if Y.t = 0 then val l Y else -(val l Y))] g').bind (fun q3 => run (n0 + 5) m_Mo_looksAhead 16 [(107, 108), (0, (D : Int)), (0, (t : Int) + -1), (0, 2 * Y.w), (0, if Y.t = 0 then val l Y else -(val l Y))] [] q3.2) ∧ WS g' q s' ∧ Lo t s s' ∧ (∀ k, t ≤ k → k < 6 → s'.li[6 * t + k]? = some (lin l Y (k - t))) ∧ Fr W0 g g'
theorem WS.mn {g : AH} {s : Wt} {X : Bo} (W : WS g q s) (e : s.ys = row X) : MnH g 108 X := MnH.of W.h (by rw [← e]; exact W.y)
theorem m_lay {g : AH} {s : Wt} {X : Bo} {t : Nat} (W : WS g q s) (t6 : t < 6) (A : At s.R (25 * t) (row X)) (O : BoOK X) : ∃ (g' : AH) (s' : Wt), cal (n0 + 4) m_Mo_laysBack [(107, 108), (0, (t : Int))] g = some (0, g') ∧ WS g' q s' ∧ s'.ys = row X ∧ s'.R = s.R ∧ s'.ho = s.ho ∧ s'.ls = s.ls ∧ s'.il = s.il ∧ s'.li = s.li ∧ Fr W0 g g' := by
  obtain ⟨W1, T1⟩ := W.s9 (xs := row X) (row_len O)
  refine ⟨_, _, ?_, W1, rfl, rfl, rfl, rfl, rfl, rfl, T1⟩
  refine m_laysBack (t := (t : Int)) (by omega) (by omega) W.h W.y W.ly W.r W.lr ?_ O
  rw [Int.toNat_natCast]
  exact A
theorem lo_eq {t : Nat} {s s' : Wt} (a : s'.R = s.R) (b : s'.ho = s.ho) (c : s'.ls = s.ls) (d : s'.il = s.il) (e : s'.li = s.li) : Lo t s s' := ⟨fun j _ => by rw [a], fun j _ => ⟨by rw [b], by rw [c], by rw [d]⟩, fun j _ => by rw [e]⟩
theorem sub_zero : Sub q n0 D 0 := by
  intro t Y s g v t1 tD D5 G hm W Bg
  obtain ⟨g1, s1, a1, W1, y1, r1, r2, r3, r4, r5, T1⟩ := m_lay (n0 := n0) W (by omega) Bg.1 G.1
  have ml : cal (n0 + 4) m_Mo_lead [(107, 108)] g1 = some (Y.b0 - Y.b1, g1) := m_lead W1.h (by rw [← y1]; exact W1.y) G.1
  have eL : (if Y.t = 0 then val 0 Y else -(val 0 Y)) = Y.b0 - Y.b1 := by
    show (if Y.t = 0 then ld Y else -(ld Y)) = _
    unfold ld
    by_cases z : Y.t = 0
    · rw [if_pos z, if_pos z]
    · rw [if_neg z, if_neg z]; omega
  refine ⟨g1, s1, ?_, W1, lo_eq r1 r2 r3 r4 r5, fun k k0 k1 => by rw [r5]; exact Bg.2.2.2 k k0 k1, T1⟩
  rw [eL, k_Mo_looksAhead_16, if_pos (by omega), k_Mo_looksAhead_30, if_pos (by omega), k_Mo_looksAhead_45]
  simp only [a1, ml, Option.bind_some]
  rw [if_pos (by omega), add_id (by omega) (by omega)]
theorem m_laLoop {l : Nat} {X : Bo} {t : Nat} (SB : Sub q n0 D l) (tl : t + (l + 1) = D) (D5 : D ≤ 5) (G : GB X) (hm : X.m + ((l + 1 : Nat) : Int) ≤ 1100) : ∀ (n : Nat) (c m ms : Int) (s : Wt) (g : AH) (v : AV), 0 ≤ c → c + (n : Int) = 2 * X.w → WS g q s → Lev t X c m ms l s → ∃ (g' : AH) (s' : Wt) (v' : AV), run (n0 + 5) m_Mo_looksAhead 16 [(107, 108), (0, (D : Int)), (0, (t : Int)), (0, 2 * X.w), v] [] g = run (n0 + 5) m_Mo_looksAhead 16 [(107, 108), (0, (D : Int)), (0, (t : Int)), (0, 2 * X.w), v'] [] g' ∧ WS g' q s' ∧ Lev t X (2 * X.w) (pick X.go (fun i => -(val l (sow X i))) n c m ms).1 (pick X.go (fun i => -(val l (sow X i))) n c m ms).2 l s' ∧ Lo t s s' ∧ Fr W0 g g' := by
  have O := G.ok
  have w5 := O.w5
  have t01 := O.t01
  intro n
  induction n with
  | zero =>
    intro c m ms s g v c0 cn W V
    rw [show c = 2 * X.w by omega] at V
    exact ⟨g, s, v, rfl, W, V, Lo.rf, Fr.rf⟩
  | succ n ih =>
    intro c m ms s g v c0 cn W V
    have rh : rdr 7 g 108 16 = some 117 := hq W rfl (by omega)
    have rc : rda 20 g 117 (t : Int) = some c := (rda_n (n := 117) W.o t).trans V.2.1
    -- to the place 30
    have E1 : run (n0 + 5) m_Mo_looksAhead 16 [(107, 108), (0, (D : Int)), (0, (t : Int)), (0, 2 * X.w), v] [] g = run (n0 + 5) m_Mo_looksAhead 30 [(107, 108), (0, (D : Int)), (0, (t : Int)), (0, 2 * X.w), v] [] g := by
      rw [k_Mo_looksAhead_16]
      by_cases z : 0 < (t : Int)
      · rw [if_pos z]
      · have t0 : t = 0 := by omega
        subst t0
        rw [if_neg z, rh, Option.bind_some]
        have rc : rda 20 g 117 0 = some c := rc
        rw [rc, Option.bind_some, if_pos (by omega)]
    obtain ⟨g1, s1, a1, W1, y1, r1, r2, r3, r4, r5, T1⟩ := m_lay (n0 := n0) W (show t < 6 by omega) V.1 O
    have V1 : Lev t X c m ms l s1 := V.lo (lo_eq r1 r2 r3 r4 r5)
    have M1 := W1.mn y1
    have rh1 : rdr 7 g1 108 16 = some 117 := hq W1 rfl (by omega)
    have rc1 : rda 20 g1 117 (t : Int) = some c := (rda_n (n := 117) W1.o t).trans V1.2.1
    have cg : cal (n0 + 4) m_Mo_canGo [(107, 108), (0, c)] g1 = some (bI (X.go c), g1) := m_canGo (q := 108) M1 O c0 (by omega)
    cases hg : X.go c with
    | false =>
      obtain ⟨W2, T2⟩ := W1.s17 (xs := s1.ho.set t (c + 1)) (by rw [List.length_set]; exact W1.lo)
      have o := W1.lo
      have w1 : wra 20 g1 117 (t : Int) (c + 1) = some (g1.set 117 (20, s1.ho.set (t : Int).toNat (c + 1))) := wra_i (n := 117) W1.o (by omega) (by rw [Int.toNat_natCast]; omega) _
      rw [Int.toNat_natCast] at w1
      have V2 : Lev t X (c + 1) m ms l (mkW s1.la s1.ys s1.R (s1.ho.set t (c + 1)) s1.ls s1.il s1.li) := ⟨V1.1, List.getElem?_set_self (by omega), V1.2.2.1, V1.2.2.2.1, V1.2.2.2.2.1, V1.2.2.2.2.2⟩
      obtain ⟨g', s', v', b1, b2, b3, b4, b5⟩ := ih (c + 1) m ms _ (g1.set 117 (20, s1.ho.set t (c + 1))) v (by omega) (by omega) W2 V2
      have ep : pick X.go (fun i => -(val l (sow X i))) (n + 1) c m ms = pick X.go (fun i => -(val l (sow X i))) n (c + 1) m ms := by
        show (if X.go c = true ∧ _ then _ else _) = _
        rw [if_neg (fun z => by rw [hg] at z; cases z.1)]
      rw [ep]
      have LL : Lo t s1 (mkW s1.la s1.ys s1.R (s1.ho.set t (c + 1)) s1.ls s1.il s1.li) := ⟨fun j _ => rfl, fun j hj => ⟨List.getElem?_set_ne (by omega), rfl, rfl⟩, fun j _ => rfl⟩
      refine ⟨g', s', v', ?_, b2, b3, (lo_eq r1 r2 r3 r4 r5).tr (LL.tr b4), (T1.tr T2).tr b5⟩
      · rw [E1, k_Mo_looksAhead_30, if_neg (by omega), rh, Option.bind_some, rc, Option.bind_some, if_neg (by omega)]
        simp only [a1, rh1, rc1, cg, hg, Option.bind_some]
        rw [if_pos (show bI false = 0 from rfl), add_id (by omega) (by omega), w1, Option.bind_some]
        exact b1
    | true =>
      have bb := G.bb (s := X.t)
      have c2w : c < 2 * X.w := by omega
      have GS := G.sw (show X.m < 1100 by omega) c0 c2w
      have sw := sow_w G c0 c2w
      have mm : (sow X c).m = X.m + 1 := rfl
      have st : (sow X c).t = 1 - X.t := rfl
      have go : cal (n0 + 4) m_Mo_goes [(107, 108), (0, c)] g1 = some (brg X c, g1.set 109 (20, row (sow X c))) := m_goes (q := 108) M1 O G.bb c0 c2w
      obtain ⟨W2, T2⟩ := W1.s9 (xs := row (sow X c)) (row_len GS.1)
      generalize g1.set 109 (20, row (sow X c)) = g2 at go W2 T2
      have nt : cal (n0 + 4) m_Mo_noted [(107, 108), (0, brg X c)] g2 = some (0, g2.set 108 (7, q.row (brg X c))) := by
        rw [k_Mo_noted, hmw W2.h (by simp [Hd.row, hM]) _]; rfl
      obtain ⟨W3, T3⟩ := W2.s8 (brg X c)
      generalize g2.set 108 (7, q.row (brg X c)) = g3 at nt W3 T3
      obtain ⟨g4, s4, d1, W4, d2, Bg, L4, T4⟩ := m_begins (d := n0 + 3) (t := t + 1) (X := sow X c) W3 rfl (by omega)
      obtain ⟨g5, s5, e1, W5, L5, e2, T5⟩ := SB (t + 1) (sow X c) s4 g4 v (by omega) (by omega) D5 GS (by rw [mm]; omega) W4 Bg
      have L15 : Lo (t + 1) s1 s5 := (Lo.tr (lo_eq rfl rfl rfl rfl rfl) L4).tr L5
      have V5 : Lev t X c m ms l s5 := V1.lo L15
      have vr := val_r l (sow X c) GS (by rw [mm]; omega)
      have ev : (if X.t = 0 then (if (sow X c).t = 0 then val l (sow X c) else -(val l (sow X c))) else -(if (sow X c).t = 0 then val l (sow X c) else -(val l (sow X c)))) = -(val l (sow X c)) := by
        rw [st]
        rcases t01 with z | z
        · rw [z, if_pos rfl, if_neg (by decide)]
        · rw [z, if_neg (by decide), if_pos (by decide)]
      generalize hL : (if (sow X c).t = 0 then val l (sow X c) else -(val l (sow X c))) = L at e1 ev
      obtain ⟨g6, s6, f1, W6, V6, L6, T6⟩ := m_ends (d := n0 + 3) (L := L) W5 O (by omega) V5 c0 (by omega) (by rw [ev]; omega) (fun k k0 k1 => by
        rw [e2 k k0 k1, show k - (t + 1) = k - t - 1 by omega])
      rw [ev] at V6
      obtain ⟨g', s', v', b1, b2, b3, b4, b5⟩ := ih (c + 1) _ _ s6 g6 (0, L) (by omega) (by omega) W6 V6
      have ep : pick X.go (fun i => -(val l (sow X i))) (n + 1) c m ms = pick X.go (fun i => -(val l (sow X i))) n (c + 1) (if m < -(val l (sow X c)) then -(val l (sow X c)) else m) (if m < -(val l (sow X c)) then c else ms) := by
        show (if X.go c = true ∧ m < -(val l (sow X c)) then _ else _) = _
        by_cases z : m < -(val l (sow X c))
        · rw [if_pos ⟨hg, z⟩, if_pos z, if_pos z]
        · rw [if_neg (fun y => z y.2), if_neg z, if_neg z]
      rw [ep]
      refine ⟨g', s', v', ?_, b2, b3, ((lo_eq r1 r2 r3 r4 r5).tr (L15.dn (by omega))).tr (L6.tr b4), (((((T1.tr T2).tr T3).tr T4).tr T5).tr T6).tr b5⟩
      rw [sw] at e1
      rw [E1, k_Mo_looksAhead_30, if_neg (by omega), rh, Option.bind_some, rc, Option.bind_some, if_neg (by omega)]
      have d1 : cal (n0 + 4) m_Mo_begins [(107, 108), (0, ((t + 1 : Nat) : Int))] g3 = some (0, g4) := d1
      have f1 : cal (n0 + 4) m_Mo_ends [(107, 108), (0, (t : Int)), (0, L)] g5 = some (0, g6) := f1
      simp only [a1, rh1, rc1, cg, hg, go, nt, Option.bind_some]
      rw [if_neg (show ¬ bI true = 0 by decide), add_id (by omega) (by omega), show (t : Int) + 1 = ((t + 1 : Nat) : Int) by omega, d1, Option.bind_some]
      refine e1.trans ?_
      rw [show ((t + 1 : Nat) : Int) + -1 = (t : Int) by omega, f1, Option.bind_some]
      exact b1
theorem sub_succ {l : Nat} (SB : Sub q n0 D l) : Sub q n0 D (l + 1) := by
  intro t Y s g v t1 tD D5 G hm W Bg
  have w2 := G.1.w2
  obtain ⟨g1, s1, v1, a1, W1, V1, L1, T1⟩ := m_laLoop SB tD D5 G hm (2 * Y.w).toNat 0 (-1000000) (-1) s g v (by omega) (by omega) W Bg.lev
  have ev : val (l + 1) Y = if (pick Y.go (fun i => -(val l (sow Y i))) (2 * Y.w).toNat 0 (-1000000) (-1)).2 = -1 then ld Y else (pick Y.go (fun i => -(val l (sow Y i))) (2 * Y.w).toNat 0 (-1000000) (-1)).1 := rfl
  have eh : hou (l + 1) Y = (pick Y.go (fun i => -(val l (sow Y i))) (2 * Y.w).toNat 0 (-1000000) (-1)).2 := rfl
  generalize pick Y.go (fun i => -(val l (sow Y i))) (2 * Y.w).toNat 0 (-1000000) (-1) = P at V1 ev eh
  obtain ⟨g2, s2, b1, W2, y2, r1, r2, r3, r4, r5, T2⟩ := m_lay (n0 := n0) W1 (show t < 6 by omega) V1.1 G.1
  have V2 : Lev t Y (2 * Y.w) P.1 P.2 l s2 := V1.lo (lo_eq r1 r2 r3 r4 r5)
  have ml : cal (n0 + 4) m_Mo_lead [(107, 108)] g2 = some (Y.b0 - Y.b1, g2) := m_lead W2.h (by rw [← y2]; exact W2.y) G.1
  have ri : rdr 7 g2 108 18 = some 119 := hq W2 rfl (by omega)
  have rv : rda 21 g2 119 (t : Int) = some (if P.2 = -1 then 0 else 1) := (rda_n (n := 119) W2.i t).trans V2.2.2.1
  have rl : rdr 7 g2 108 17 = some 118 := hq W2 rfl (by omega)
  have rh : rdr 7 g1 108 16 = some 117 := hq W1 rfl (by omega)
  have rc : rda 20 g1 117 (t : Int) = some (2 * Y.w) := (rda_n (n := 117) W1.o t).trans V1.2.1
  refine ⟨g2, s2, ?_, W2, L1.tr (lo_eq r1 r2 r3 r4 r5), fun k k0 k1 => ?_, T1.tr T2⟩
  · rw [a1, k_Mo_looksAhead_16, if_pos (by omega), k_Mo_looksAhead_30, if_neg (by omega), rh, Option.bind_some, rc, Option.bind_some, if_pos rfl, k_Mo_looksAhead_45, b1, Option.bind_some, if_neg (by omega)]
    show (rdr 7 g2 108 18).bind _ = _
    rw [ri, Option.bind_some]
    show (rda 21 g2 119 (t : Int)).bind _ = _
    rw [rv, Option.bind_some, ev]
    by_cases z : P.2 = -1
    · rw [if_pos z, if_pos z]
      have eL : (if Y.t = 0 then ld Y else -(ld Y)) = Y.b0 - Y.b1 := by
        unfold ld
        by_cases y : Y.t = 0
        · rw [if_pos y, if_pos y]
        · rw [if_neg y, if_neg y]; omega
      rw [if_pos rfl, eL]
      simp only [ml, Option.bind_some]
      rw [add_id (by omega) (by omega)]
    · have rm : rda 20 g2 118 (t : Int) = some (if Y.t = 0 then P.1 else -P.1) := (rda_n (n := 118) W2.l t).trans (V2.2.2.2.1 z)
      rw [if_neg z, if_neg z, if_neg (by decide)]
      simp only [rl, rm, Option.bind_some]
      rw [add_id (by omega) (by omega)]
  · rw [V2.2.2.2.2.1 k k0 k1]
    by_cases e : k = t
    · subst e
      rw [Nat.sub_self, if_pos rfl]
      show _ = some (hou (l + 1) Y)
      rw [eh]
      by_cases z : P.2 = -1
      · rw [if_pos z, z]
      · rw [if_neg z]
    · rw [if_neg e, show k - t = (k - t - 1) + 1 by omega]
      show _ = some (if hou (l + 1) Y = -1 then -1 else lin l (sow Y (hou (l + 1) Y)) (k - t - 1))
      rw [eh, show k - t - 1 + 1 - 1 = k - t - 1 by omega]
theorem sub_all : ∀ l : Nat, Sub q n0 D l := by
  intro l
  induction l with
  | zero => exact sub_zero
  | succ l ih => exact sub_succ ih
/-- looking so many moves ahead -/
theorem m_looksAhead {X : Bo} {s : Wt} {g : AH} (D1 : 1 ≤ D) (D5 : D ≤ 5) (G : GB X) (hm : X.m + (D : Int) ≤ 1100) (W : WS g q s) (ey : s.ys = row X) : ∃ (g' : AH) (s' : Wt), cal (n0 + 5) m_Mo_looksAhead [(107, 108), (0, (D : Int))] g = some (if X.t = 0 then val D X else -(val D X), g') ∧ WS g' q s' ∧ s'.ys = row X ∧ (∀ k, k < 6 → s'.li[k]? = some (lin D X k)) ∧ Fr W0 g g' := by
  obtain ⟨l, rfl⟩ : ∃ l, D = l + 1 := ⟨D - 1, by omega⟩
  have w2 := G.1.w2
  have w5 := G.1.w5
  obtain ⟨g0, s0, a0, W0', y0, Bg, L0, T0⟩ := m_begins (d := n0 + 3) (t := 0) W ey (by omega)
  have M0 := W0'.mn y0
  have rn : rdr 7 g0 108 0 = some 109 := M0.now
  have rw0 : rda 20 g0 109 0 = some X.w := M0.rw0
  obtain ⟨g1, s1, v1, a1, W1, V1, L1, T1⟩ := m_laLoop (sub_all l) (Nat.zero_add (l + 1)) D5 G hm (2 * X.w).toNat 0 (-1000000) (-1) s0 g0 (9, 0) (by omega) (by omega) W0' Bg.lev
  have ev : val (l + 1) X = if (pick X.go (fun i => -(val l (sow X i))) (2 * X.w).toNat 0 (-1000000) (-1)).2 = -1 then ld X else (pick X.go (fun i => -(val l (sow X i))) (2 * X.w).toNat 0 (-1000000) (-1)).1 := rfl
  have eh : hou (l + 1) X = (pick X.go (fun i => -(val l (sow X i))) (2 * X.w).toNat 0 (-1000000) (-1)).2 := rfl
  generalize pick X.go (fun i => -(val l (sow X i))) (2 * X.w).toNat 0 (-1000000) (-1) = P at V1 ev eh
  obtain ⟨g2, s2, b1, W2, y2, r1, r2, r3, r4, r5, T2⟩ := m_lay (n0 := n0) (t := 0) W1 (by omega) V1.1 G.1
  have V2 : Lev 0 X (2 * X.w) P.1 P.2 l s2 := V1.lo (lo_eq r1 r2 r3 r4 r5)
  have ml : cal (n0 + 4) m_Mo_lead [(107, 108)] g2 = some (X.b0 - X.b1, g2) := m_lead W2.h (by rw [← y2]; exact W2.y) G.1
  have ri : rdr 7 g2 108 18 = some 119 := hq W2 rfl (by omega)
  have rv : rda 21 g2 119 0 = some (if P.2 = -1 then 0 else 1) := (rda_n (n := 119) W2.i 0).trans V2.2.2.1
  have rl : rdr 7 g2 108 17 = some 118 := hq W2 rfl (by omega)
  have rh : rdr 7 g1 108 16 = some 117 := hq W1 rfl (by omega)
  have rc : rda 20 g1 117 0 = some (2 * X.w) := (rda_n (n := 117) W1.o 0).trans V1.2.1
  have a0 : cal (n0 + 4) m_Mo_begins [(107, 108), (0, 0)] g = some (0, g0) := a0
  have b1 : cal (n0 + 4) m_Mo_laysBack [(107, 108), (0, 0)] g1 = some (0, g2) := b1
  have a1 : run (n0 + 4 + 1) m_Mo_looksAhead 16 [(107, 108), (0, ((l + 1 : Nat) : Int)), (0, 0), (0, 2 * X.w), (9, 0)] [] g0 = run (n0 + 5) m_Mo_looksAhead 16 [(107, 108), (0, ((l + 1 : Nat) : Int)), (0, 0), (0, 2 * X.w), v1] [] g1 := a1
  refine ⟨g2, s2, ?_, W2, y2, fun k k1 => ?_, (T0.tr T1).tr T2⟩
  · rw [k_Mo_looksAhead, a0, Option.bind_some]
    show (rdr 7 g0 108 0).bind _ = _
    rw [rn, Option.bind_some]
    show (rda 20 g0 109 0).bind _ = _
    rw [rw0, Option.bind_some, mul_id (by omega) (by omega)]
    refine Eq.trans a1 ?_
    rw [k_Mo_looksAhead_16, if_neg (by omega), rh, Option.bind_some, rc, Option.bind_some, if_neg (by omega), b1, Option.bind_some]
    show (rdr 7 g2 108 18).bind _ = _
    rw [ri, Option.bind_some]
    show (rda 21 g2 119 0).bind _ = _
    rw [rv, Option.bind_some, ev]
    by_cases z : P.2 = -1
    · rw [if_pos z, if_pos z]
      have eL : (if X.t = 0 then ld X else -(ld X)) = X.b0 - X.b1 := by
        unfold ld
        by_cases y : X.t = 0
        · rw [if_pos y, if_pos y]
        · rw [if_neg y, if_neg y]; omega
      rw [if_pos rfl, eL]
      simp only [ml, Option.bind_some]
    · have rm : rda 20 g2 118 0 = some (if X.t = 0 then P.1 else -P.1) := (rda_n (n := 118) W2.l 0).trans (V2.2.2.2.1 z)
      rw [if_neg z, if_neg z, if_neg (by decide)]
      simp only [rl, rm, Option.bind_some]
  · have := V2.2.2.2.2.1 k (by omega) k1
    rw [Nat.mul_zero, Nat.zero_add] at this
    rw [this]
    by_cases e : k = 0
    · subst e
      rw [if_pos rfl]
      show _ = some (hou (l + 1) X)
      rw [eh]
      by_cases z : P.2 = -1
      · rw [if_pos z, z]
      · rw [if_neg z]
    · rw [if_neg e, show k = (k - 1) + 1 by omega]
      show _ = some (if hou (l + 1) X = -1 then -1 else lin l (sow X (hou (l + 1) X)) (k - 1))
      rw [eh, show k - 1 + 1 - 0 - 1 = k - 1 by omega]
end LA
