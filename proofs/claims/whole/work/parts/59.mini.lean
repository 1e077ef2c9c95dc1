/-! The model made. -/
def MM (K : AH) (xs : List Int) (L : AH) : AH := K ++ (7, xs) :: L
section MINI
variable {K L : AH} {xs : List Int} {d : Nat}
theorem mm_app (M : AH) : MM K xs L ++ M = MM K xs (L ++ M) := by unfold MM; rw [List.append_assoc, List.cons_append]
theorem mm_wr {k : Nat} (hk : k < xs.length) (v : Int) : wrf 7 (MM K xs L) (Int.ofNat K.length) k v = some (MM K (xs.set k v) L) := wrfA hk v
end MINI
def nbH (h : AH) (r ho li : List Int) : AH := ((h.set 123 (20, r)).set 124 (20, ho)).set 127 (20, li)
section NB
variable {h : AH} {r ho li : List Int} {d : Nat}
theorem nb_get (hl : 127 < h.length) (j : Nat) : (nbH h r ho li)[j]? = if j = 127 then some (20, li) else if j = 124 then some (20, ho) else if j = 123 then some (20, r) else h[j]? := by
  unfold nbH
  by_cases a : j = 127
  · subst a; rw [if_pos rfl, getS (by simp; omega)]
  · rw [if_neg a, getN (fun z => a z.symm)]
    by_cases b : j = 124
    · subst b; rw [if_pos rfl, getS (by simp; omega)]
    · rw [if_neg b, getN (fun z => b z.symm)]
      by_cases e : j = 123
      · subst e; rw [if_pos rfl, getS (by omega)]
      · rw [if_neg e, getN (fun z => e z.symm)]
theorem nb_len : (nbH h r ho li).length = h.length := by simp [nbH]
theorem nb_s1 (hl : 127 < h.length) (x : List Int) : (nbH h r ho li).set 123 (20, x) = nbH h x ho li := by
  apply List.ext_getElem?
  intro j
  rw [nb_get hl, List.getElem?_set, nb_get hl, nb_len]
  by_cases e : 123 = j
  · subst e; simp; omega
  · simp [e, show ¬ j = 123 from fun z => e z.symm]
theorem nb_s2 (hl : 127 < h.length) (x : List Int) : (nbH h r ho li).set 124 (20, x) = nbH h r x li := by
  apply List.ext_getElem?
  intro j
  rw [nb_get hl, List.getElem?_set, nb_get hl, nb_len]
  by_cases e : 124 = j
  · subst e; simp; omega
  · simp [e, show ¬ j = 124 from fun z => e z.symm]
theorem nb_s3 (hl : 127 < h.length) (x : List Int) : (nbH h r ho li).set 127 (20, x) = nbH h r ho x := by
  apply List.ext_getElem?
  intro j
  rw [nb_get hl, List.getElem?_set, nb_get hl, nb_len]
  by_cases e : 127 = j
  · subst e; simp; omega
  · simp [e, show ¬ j = 127 from fun z => e z.symm]
theorem nb_self (hl : 127 < h.length) (e1 : h[123]? = some (20, r)) (e2 : h[124]? = some (20, ho)) (e3 : h[127]? = some (20, li)) : nbH h r ho li = h := by
  apply List.ext_getElem?
  intro j
  rw [nb_get hl]
  by_cases a : j = 127
  · subst a; rw [if_pos rfl, e3]
  · rw [if_neg a]
    by_cases b : j = 124
    · subst b; rw [if_pos rfl, e2]
    · rw [if_neg b]
      by_cases e : j = 123
      · subst e; rw [if_pos rfl, e1]
      · rw [if_neg e]
theorem m_nbStep {xs : List Int} {x24 x25 x28 : Int} (hl : 127 < h.length) (hm : h[108]? = some (7, xs)) (a1 : xs[24]? = some 123) (a2 : xs[25]? = some 124) (a3 : xs[28]? = some 127) (l1 : r.length = 5) (l2 : ho.length = 5) (l3 : li.length = 5) {c : Int} (h0 : 0 ≤ c) (h1 : c < 5) : run (d + 1) m_Mo_noBoxes 2 [(107, 108), (0, c)] [] (nbH h r ho li) = run (d + 1) m_Mo_noBoxes 2 [(107, 108), (0, c + 1)] [] (nbH h (r.set c.toNat (-1)) (ho.set c.toNat 0) (li.set c.toNat (-1))) := by
  have G : ∀ r ho li : List Int, (nbH h r ho li)[108]? = some (7, xs) := fun r ho li => by rw [nb_get hl, if_neg (by omega), if_neg (by omega), if_neg (by omega), hm]
  have G1 : ∀ r ho li : List Int, (nbH h r ho li)[123]? = some (20, r) := fun r ho li => by rw [nb_get hl, if_neg (by omega), if_neg (by omega), if_pos rfl]
  have G2 : ∀ r ho li : List Int, (nbH h r ho li)[124]? = some (20, ho) := fun r ho li => by rw [nb_get hl, if_neg (by omega), if_pos rfl]
  have G3 : ∀ r ho li : List Int, (nbH h r ho li)[127]? = some (20, li) := fun r ho li => by rw [nb_get hl, if_pos rfl]
  have R : ∀ (r ho li : List Int) (k : Nat) (v : Int), xs[k]? = some v → 0 ≤ v → rdr 7 (nbH h r ho li) 108 k = some v := fun r ho li k v e z => rdr_n (n := 108) (G r ho li) e z
  rw [k_Mo_noBoxes_2, if_pos h1, R _ _ _ _ _ a1 (by omega), Option.bind_some, show (123 : Int) = ((123 : Nat) : Int) from rfl, wra_i (G1 _ _ _) h0 (by omega), Option.bind_some, nb_s1 hl, R _ _ _ _ _ a2 (by omega), Option.bind_some, show (124 : Int) = ((124 : Nat) : Int) from rfl, wra_i (G2 _ _ _) h0 (by omega), Option.bind_some, nb_s2 hl, R _ _ _ _ _ a3 (by omega), Option.bind_some, show (127 : Int) = ((127 : Nat) : Int) from rfl, wra_i (G3 _ _ _) h0 (by omega), Option.bind_some, nb_s3 hl, add_id (by omega) (by omega)]
theorem set5 {v : Int} : ∀ r : List Int, r.length = 5 → ((((r.set 0 v).set 1 v).set 2 v).set 3 v).set 4 v = List.replicate 5 v
  | [_, _, _, _, _], _ => rfl
theorem m_noBoxes {xs : List Int} (hm : h[108]? = some (7, xs)) (a1 : xs[24]? = some 123) (a2 : xs[25]? = some 124) (a3 : xs[28]? = some 127) (e1 : h[123]? = some (20, r)) (e2 : h[124]? = some (20, ho)) (e3 : h[127]? = some (20, li)) (l1 : r.length = 5) (l2 : ho.length = 5) (l3 : li.length = 5) : cal (d + 1) m_Mo_noBoxes [(107, 108)] h = some (0, nbH h (List.replicate 5 (-1)) (List.replicate 5 0) (List.replicate 5 (-1))) := by
  have hl := gtl e3
  have L : ∀ (x : List Int) (n : Nat) (v : Int), x.length = 5 → (x.set n v).length = 5 := fun x n v e => by rw [List.length_set]; exact e
  have S := @m_nbStep h
  rw [k_Mo_noBoxes]
  refine Eq.trans (b := run (d + 1) m_Mo_noBoxes 2 [(107, 108), (0, 0)] [] (nbH h r ho li)) (by rw [nb_self hl e1 e2 e3]) ?_
  rw [m_nbStep (x24 := 0) (x25 := 0) (x28 := 0) hl hm a1 a2 a3 l1 l2 l3 (by omega) (by omega)]
  rw [m_nbStep (x24 := 0) (x25 := 0) (x28 := 0) hl hm a1 a2 a3 (by simp [l1]) (by simp [l2]) (by simp [l3]) (by omega) (by omega)]
  rw [m_nbStep (x24 := 0) (x25 := 0) (x28 := 0) hl hm a1 a2 a3 (by simp [l1]) (by simp [l2]) (by simp [l3]) (by omega) (by omega)]
  rw [m_nbStep (x24 := 0) (x25 := 0) (x28 := 0) hl hm a1 a2 a3 (by simp [l1]) (by simp [l2]) (by simp [l3]) (by omega) (by omega)]
  rw [m_nbStep (x24 := 0) (x25 := 0) (x28 := 0) hl hm a1 a2 a3 (by simp [l1]) (by simp [l2]) (by simp [l3]) (by omega) (by omega)]
  rw [k_Mo_noBoxes_2, if_neg (by omega)]
  show some (0, nbH h (((((r.set 0 (-1)).set 1 (-1)).set 2 (-1)).set 3 (-1)).set 4 (-1)) (((((ho.set 0 0).set 1 0).set 2 0).set 3 0).set 4 0) (((((li.set 0 (-1)).set 1 (-1)).set 2 (-1)).set 3 (-1)).set 4 (-1))) = _
  rw [set5 r l1, set5 ho l2, set5 li l3]
end NB
def moL : AH := [(20, List.replicate 25 0), (20, List.replicate 25 0), (20, List.replicate 200 0), (20, List.replicate 25 0), (20, List.replicate 200 0), (20, List.replicate 50 0), (20, List.replicate 25 0), (20, List.replicate 175 0), (20, List.replicate 6 0), (20, List.replicate 6 0), (21, List.replicate 6 0), (20, List.replicate 36 0), (23, List.replicate 6 0), (20, List.replicate 24 0), (20, List.replicate 5 0), (20, List.replicate 5 0), (20, List.replicate 20 0), (20, List.replicate 20 0), (20, List.replicate 5 0), (20, List.replicate 24 0), (20, List.replicate 24 0)]
def moL2 : AH := [(20, row (bd1 3)), (20, row (bd1 3)), (20, List.replicate 200 0), (20, List.replicate 25 0), (20, List.replicate 200 0), (20, List.replicate 50 0), (20, List.replicate 25 0), (20, List.replicate 175 0), (20, List.replicate 6 0), (20, List.replicate 6 0), (21, List.replicate 6 0), (20, List.replicate 36 0), (23, List.replicate 6 0), (20, List.replicate 24 0), (20, List.replicate 5 (-1)), (20, List.replicate 5 0), (20, List.replicate 20 0), (20, List.replicate 20 0), (20, List.replicate 5 (-1)), (20, List.replicate 24 0), (20, List.replicate 24 0)]
/-- all that is made, at first -/
def hhA (scr : List Int) : AH := MM (ssH scr) (hM 0 0 0 0 0 0 0 0 0 0) moL2
section MI
variable {K L : AH} {xs : List Int} {d : Nat} {c : Nat × List Int}
theorem mm_step {k : Nat} (hK : K.length = 108) (hk : k < 31) (hx : xs.length = 31) : wrf 7 (MM K xs L ++ [c]) (Int.ofNat K.length) k (Int.ofNat (MM K xs L).length) = some (MM K (xs.set k ((109 + L.length : Nat) : Int)) (L ++ [c])) := by
  have e : (MM K xs L).length = 109 + L.length := by unfold MM; simp [hK]; omega
  rw [e, mm_app, mm_wr (by omega)]
  rfl
theorem mm_get (hK : K.length = 108) (i : Nat) : (MM K xs L)[108 + i]? = ((7, xs) :: L)[i]? := by
  unfold MM
  rw [List.getElem?_append_right (by omega), hK, show 108 + i - 108 = i by omega]
theorem mm_set (hK : K.length = 108) (i : Nat) : (MM K xs L).set (109 + i) c = MM K xs (L.set i c) := by
  unfold MM
  rw [List.set_append_right _ _ (by omega), hK, show 109 + i - 108 = i + 1 by omega]
  rfl
theorem m_moI (hK : K.length = 108) : cal (d + 2) m_Mo_init [(107, Int.ofNat (List.length K))] (K ++ [(7, am_ini 7)]) = some (0, MM K (hM 0 0 0 0 0 0 0 0 0 0) moL2) := by
  have l0 : (am_ini 7).length = 31 := rfl
  rw [k_Mo_init]
  show (wrf 7 (MM K (am_ini 7) [] ++ _) (Int.ofNat K.length) 0 (Int.ofNat (List.length (MM K (am_ini 7) [])))).bind _ = _
  iterate 21 rw [mm_step hK (by omega) (by simp only [List.length_set, l0]), Option.bind_some]
  show (rdr 7 (MM K (hM 0 0 0 0 0 0 0 0 0 0) moL) (Int.ofNat K.length) 1).bind _ = _
  rw [hK, show Int.ofNat 108 = ((108 : Nat) : Int) from rfl]
  rw [rdr_n (n := 108) (xs := hM 0 0 0 0 0 0 0 0 0 0) (k := 1) (v := 110) (mm_get hK 0) rfl (by omega), Option.bind_some]
  rw [show (110 : Int) = ((110 : Nat) : Int) from rfl, m_atFirst (a := 110) (xs := List.replicate 25 0) (mm_get hK 2) rfl (by omega) (by omega), Option.bind_some, mm_set hK 1]
  show (rdr 7 (MM K (hM 0 0 0 0 0 0 0 0 0 0) (moL.set 1 (20, row (bd1 3)))) ((108 : Nat) : Int) 0).bind _ = _
  rw [rdr_n (n := 108) (xs := hM 0 0 0 0 0 0 0 0 0 0) (k := 0) (v := 109) (mm_get hK 0) rfl (by omega), Option.bind_some]
  rw [show (109 : Int) = ((109 : Nat) : Int) from rfl, m_atFirst (a := 109) (xs := List.replicate 25 0) (mm_get hK 1) rfl (by omega) (by omega), Option.bind_some, mm_set hK 0]
  show (cal (d + 1) m_Mo_noBoxes [(107, 108)] (MM K (hM 0 0 0 0 0 0 0 0 0 0) ((moL.set 1 (20, row (bd1 3))).set 0 (20, row (bd1 3))))).bind _ = _
  rw [m_noBoxes (xs := hM 0 0 0 0 0 0 0 0 0 0) (r := List.replicate 5 0) (ho := List.replicate 5 0) (li := List.replicate 5 0) (mm_get hK 0) rfl rfl rfl (mm_get hK 15) (mm_get hK 16) (mm_get hK 19) rfl rfl rfl, Option.bind_some]
  unfold nbH
  rw [mm_set hK 14, mm_set hK 15, mm_set hK 18]
  rfl
end MI
theorem m_moInit {scr : List Int} {d : Nat} : cal (d + 2) m_Mo_init [(107, Int.ofNat (List.length (ssH scr)))] (ssH scr ++ [(7, am_ini 7)]) = some (0, hhA scr) := m_moI rfl
