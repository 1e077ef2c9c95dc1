/-! board: what is cleared. -/
theorem c_bsClear {d : Nat} : ∀ (k c : Nat) (h : AH) (Z : Nat → Bk), c + k = 5 → XH h Z → ZM Z → (∀ j, j < c → (Z j).t = 0 ∧ (Z j).n = -1) → ∃ (h' : AH) (Y : Nat → Bk), run (d + 3) m_Bs_clear 2 [(102, 51), (0, (c : Int))] [] h = some (0, h') ∧ XH h' Y ∧ ZM Y ∧ Fr XB h h' ∧ ∀ j, j < 5 → (Y j).t = 0 ∧ (Y j).n = -1 := by
  intro k
  induction k with
  | zero =>
    intro c h Z ck X m q
    refine ⟨h, Z, ?_, X, m, Fr.rf, fun j hj => q j (by omega)⟩
    rw [k_Bs_clear_2, if_neg (by omega)]
  | succ k ih =>
    intro c h Z ck X m q
    obtain ⟨h1, Y, a1, X1, R1, F1⟩ := c_remove (d := d) (x := c) (by omega) X m
    have m1 := m.rem (by omega) R1
    obtain ⟨h', Y', b1, b2, b3, b4, b5⟩ := ih (c + 1) h1 Y (by omega) X1 m1 (fun j hj => by
      by_cases e : j = c
      · rw [e]; exact ⟨R1.2.1, R1.2.2.1⟩
      · obtain ⟨-, r2, r3, -⟩ := R1.2.2.2.2.2 j (by omega) e
        have := q j (by omega)
        rw [r2, r3, this.1, this.2, if_neg (by omega)]
        exact ⟨rfl, rfl⟩)
    refine ⟨h', Y', ?_, b2, b3, F1.tr b4, b5⟩
    rw [k_Bs_clear_2, if_pos (by omega), a1, Option.bind_some, add_id (by omega) (by omega), show (c : Int) + 1 = ((c + 1 : Nat) : Int) by omega]
    exact b1
def RB (j : Nat) : Prop := j = 109 ∨ j = 110
theorem m_bd17 {d : Nat} {le pl be to va br un ke la ma x : Int} {xs : List Int} (lx : xs.length = 25) : ∀ (k c : Nat) (h : AH) (ys zs : List Int), c + k = 25 → h[108]? = some (7, hM le pl be to va br un ke la ma) → h[112]? = some (20, xs) → h[110]? = some (20, ys) → h[109]? = some (20, zs) → ys.length = 25 → zs.length = 25 → ∃ h' : AH, run (d + 1) m_Mo_board 17 [(107, 108), (0, x), (0, (c : Int))] [] h = run (d + 1) m_Mo_board 17 [(107, 108), (0, x), (0, 25)] [] h' ∧ h'[110]? = some (20, cpN xs 0 0 k c ys) ∧ h'[109]? = some (20, cpN xs 0 0 k c zs) ∧ Fr RB h h' := by
  intro k
  induction k with
  | zero => intro c h ys zs ck hm e1 e2 e3 l1 l2; exact ⟨h, by rw [show (c : Int) = 25 by omega], e2, e3, Fr.rf⟩
  | succ k ih =>
    intro c h ys zs ck hm e1 e2 e3 l1 l2
    have r1 : rdr 7 h 108 1 = some 110 := hmr hm rfl (by omega)
    have r9 : rdr 7 h 108 9 = some 112 := hmr hm rfl (by omega)
    have rx : rda 20 h 112 (c : Int) = some (xs.getD (c : Int).toNat 0) := rdA (n := 112) e1 (by omega) (by omega)
    have w1 : wra 20 h 110 (c : Int) (xs.getD (c : Int).toNat 0) = some (h.set 110 (20, ys.set (c : Int).toNat (xs.getD (c : Int).toNat 0))) := wra_i (n := 110) e2 (by omega) (by omega) _
    have F1 : Fr RB h (h.set 110 (20, ys.set (c : Int).toNat (xs.getD (c : Int).toNat 0))) := fr_set (Or.inr rfl)
    have g1 : (h.set 110 (20, ys.set (c : Int).toNat (xs.getD (c : Int).toNat 0)))[110]? = some (20, ys.set (c : Int).toNat (xs.getD (c : Int).toNat 0)) := getS (gtl e2)
    have g2 : (h.set 110 (20, ys.set (c : Int).toNat (xs.getD (c : Int).toNat 0)))[109]? = some (20, zs) := by rw [getN (by omega)]; exact e3
    generalize h.set 110 (20, ys.set (c : Int).toNat (xs.getD (c : Int).toNat 0)) = h1 at *
    have hm1 : h1[108]? = some (7, hM le pl be to va br un ke la ma) := by rw [F1.g _ (by unfold RB; omega)]; exact hm
    have e11 : h1[112]? = some (20, xs) := by rw [F1.g _ (by unfold RB; omega)]; exact e1
    have r1' : rdr 7 h1 108 0 = some 109 := hmr hm1 rfl (by omega)
    have r9' : rdr 7 h1 108 9 = some 112 := hmr hm1 rfl (by omega)
    have rx' : rda 20 h1 112 (c : Int) = some (xs.getD (c : Int).toNat 0) := rdA (n := 112) e11 (by omega) (by omega)
    have w2 : wra 20 h1 109 (c : Int) (xs.getD (c : Int).toNat 0) = some (h1.set 109 (20, zs.set (c : Int).toNat (xs.getD (c : Int).toNat 0))) := wra_i (n := 109) g2 (by omega) (by omega) _
    have F2 : Fr RB h1 (h1.set 109 (20, zs.set (c : Int).toNat (xs.getD (c : Int).toNat 0))) := fr_set (Or.inl rfl)
    have g3 : (h1.set 109 (20, zs.set (c : Int).toNat (xs.getD (c : Int).toNat 0)))[109]? = some (20, zs.set (c : Int).toNat (xs.getD (c : Int).toNat 0)) := getS (gtl g2)
    have g4 : (h1.set 109 (20, zs.set (c : Int).toNat (xs.getD (c : Int).toNat 0)))[110]? = some (20, ys.set (c : Int).toNat (xs.getD (c : Int).toNat 0)) := by rw [getN (by omega)]; exact g1
    generalize h1.set 109 (20, zs.set (c : Int).toNat (xs.getD (c : Int).toNat 0)) = h2 at *
    obtain ⟨h', a1, a2, a3, a4⟩ := ih (c + 1) h2 _ _ (by omega) (by rw [F2.g _ (by unfold RB; omega)]; exact hm1) (by rw [F2.g _ (by unfold RB; omega)]; exact e11) g4 g3 (by rw [List.length_set]; exact l1) (by rw [List.length_set]; exact l2)
    rw [show (c : Int).toNat = 0 + c by omega] at a2 a3
    refine ⟨h', ?_, a2, a3, (F1.tr F2).tr a4⟩
    rw [k_Mo_board_17, if_pos (by omega)]
    simp only [r1, r9, rx, w1, r1', r9', rx', w2, Option.bind_some]
    rw [add_id (by omega) (by omega), show (c : Int) + 1 = ((c + 1 : Nat) : Int) by omega]
    exact a1
/-- the model's end of a board told -/
theorem m_bd25 {d : Nat} {h : AH} {le pl be to va br un ke la ma x : Int} {r ho li : List Int} (hm : h[108]? = some (7, hM le pl be to va br un ke la ma)) (e1 : h[123]? = some (20, r)) (e2 : h[124]? = some (20, ho)) (e3 : h[127]? = some (20, li)) (l1 : r.length = 5) (l2 : ho.length = 5) (l3 : li.length = 5) : run (d + 2) m_Mo_board 17 [(107, 108), (0, x), (0, 25)] [] h = some (x, nbH (h.set 108 (7, hM 0 pl be to va br 0 0 la 0)) (List.replicate 5 (-1)) (List.replicate 5 0) (List.replicate 5 (-1))) := by
  have hl := gtl hm
  have s1 : wrf 7 h 108 3 0 = some (h.set 108 (7, hM 0 pl be to va br un ke la ma)) := hmw hm (by simp [hM]) 0
  have s2 : wrf 7 (h.set 108 (7, hM 0 pl be to va br un ke la ma)) 108 11 0 = some (h.set 108 (7, hM 0 pl be to va br 0 ke la ma)) := (hmw (getS hl) (by simp [hM]) 0).trans (by rw [List.set_set]; rfl)
  have s3 : wrf 7 (h.set 108 (7, hM 0 pl be to va br 0 ke la ma)) 108 13 0 = some (h.set 108 (7, hM 0 pl be to va br 0 0 la ma)) := (hmw (getS hl) (by simp [hM]) 0).trans (by rw [List.set_set]; rfl)
  have s4 : wrf 7 (h.set 108 (7, hM 0 pl be to va br 0 0 la ma)) 108 23 0 = some (h.set 108 (7, hM 0 pl be to va br 0 0 la 0)) := (hmw (getS hl) (by simp [hM]) 0).trans (by rw [List.set_set]; rfl)
  have nb := m_noBoxes (d := d) (h := h.set 108 (7, hM 0 pl be to va br 0 0 la 0)) (getS hl) rfl rfl rfl (by rw [getN (by omega)]; exact e1) (by rw [getN (by omega)]; exact e2) (by rw [getN (by omega)]; exact e3) l1 l2 l3
  rw [k_Mo_board_17, if_neg (by decide), s1, Option.bind_some, s2, Option.bind_some, s3, Option.bind_some, s4, Option.bind_some, nb, Option.bind_some]
