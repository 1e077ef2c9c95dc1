/-! Rows copied by the model. Printed by wip/tools/gen74.py. -/
section CP
variable {h : AH} {d : Nat} {le pl be to va br un ke la ma : Int} {xs : List Int}
theorem m_wb2 {i : Int} {v : AV} (hm : h[108]? = some (7, hM le pl be to va br un ke la ma)) (eS : h[109]? = some (20, xs)) (lS : 0 + 25 ≤ xs.length) (hD : 116 < h.length) : ∀ (k c : Nat) (ys : List Int), 150 + 25 ≤ ys.length → c + k = 25 → run (d + 1) m_Mo_wouldBring 2 [(107, 108), (0, i), (0, (c : Int)), v] [] (h.set 116 (20, ys)) = run (d + 1) m_Mo_wouldBring 2 [(107, 108), (0, i), (0, 25), v] [] (h.set 116 (20, cpN xs 0 150 k c ys)) := by
  intro k
  induction k with
  | zero => intro c ys _ e; rw [show c = 25 by omega]; rfl
  | succ k ih =>
    intro c ys hy e
    have hm' : (h.set 116 (20, ys))[108]? = some (7, hM le pl be to va br un ke la ma) := by rw [getN (by omega)]; exact hm
    have r1 : rdr 7 (h.set 116 (20, ys)) 108 15 = some 116 := hmr hm' rfl (by omega)
    have r2 : rdr 7 (h.set 116 (20, ys)) 108 0 = some 109 := hmr hm' rfl (by omega)
    have r4 : rda 20 (h.set 116 (20, ys)) 109 (c : Int) = some (xs.getD (c : Int).toNat 0) := rdA (n := 109) (xs := xs) (by rw [getN (by omega)]; exact eS) (by omega) (by omega)
    have r5 : ∀ v : Int, wra 20 (h.set 116 (20, ys)) 116 (150 + (c : Int)) v = some ((h.set 116 (20, ys)).set 116 (20, ys.set (150 + (c : Int)).toNat v)) := fun v => wra_i (n := 116) (getS hD) (by omega) (by omega) v
    rw [k_Mo_wouldBring_2, if_pos (by omega), r1, Option.bind_some, r2, Option.bind_some, r4, Option.bind_some, add_id (x := 150) (by omega) (by omega), r5, Option.bind_some, List.set_set, add_id (x := (c : Int)) (by omega) (by omega)]
    rw [show (c : Int).toNat = 0 + c by omega, show (150 + (c : Int)).toNat = 150 + c by omega]
    exact ih (c + 1) _ (by rw [List.length_set]; exact hy) (by omega)
theorem m_wb38 {i x : Int} (hm : h[108]? = some (7, hM le pl be to va br un ke la ma)) (eS : h[116]? = some (20, xs)) (lS : 150 + 25 ≤ xs.length) (hD : 109 < h.length) : ∀ (k c : Nat) (ys : List Int), 0 + 25 ≤ ys.length → c + k = 25 → run (d + 1) m_Mo_wouldBring 38 [(107, 108), (0, i), (0, x), (0, (c : Int))] [] (h.set 109 (20, ys)) = run (d + 1) m_Mo_wouldBring 38 [(107, 108), (0, i), (0, x), (0, 25)] [] (h.set 109 (20, cpN xs 150 0 k c ys)) := by
  intro k
  induction k with
  | zero => intro c ys _ e; rw [show c = 25 by omega]; rfl
  | succ k ih =>
    intro c ys hy e
    have hm' : (h.set 109 (20, ys))[108]? = some (7, hM le pl be to va br un ke la ma) := by rw [getN (by omega)]; exact hm
    have r1 : rdr 7 (h.set 109 (20, ys)) 108 0 = some 109 := hmr hm' rfl (by omega)
    have r2 : rdr 7 (h.set 109 (20, ys)) 108 15 = some 116 := hmr hm' rfl (by omega)
    have r4 : rda 20 (h.set 109 (20, ys)) 116 (150 + (c : Int)) = some (xs.getD (150 + (c : Int)).toNat 0) := rdA (n := 116) (xs := xs) (by rw [getN (by omega)]; exact eS) (by omega) (by omega)
    have r5 : ∀ v : Int, wra 20 (h.set 109 (20, ys)) 109 (c : Int) v = some ((h.set 109 (20, ys)).set 109 (20, ys.set (c : Int).toNat v)) := fun v => wra_i (n := 109) (getS hD) (by omega) (by omega) v
    rw [k_Mo_wouldBring_38, if_pos (by omega), r1, Option.bind_some, r2, Option.bind_some, add_id (x := 150) (by omega) (by omega), r4, Option.bind_some, r5, Option.bind_some, List.set_set, add_id (x := (c : Int)) (by omega) (by omega)]
    rw [show (150 + (c : Int)).toNat = 150 + c by omega, show (c : Int).toNat = 0 + c by omega]
    exact ih (c + 1) _ (by rw [List.length_set]; exact hy) (by omega)
theorem m_as2 (hm : h[108]? = some (7, hM le pl be to va br un ke la ma)) (eS : h[109]? = some (20, xs)) (lS : 0 + 25 ≤ xs.length) (hD : 115 < h.length) : ∀ (k c : Nat) (ys : List Int), 0 + 25 ≤ ys.length → c + k = 25 → run (d + 1) m_Mo_asides 2 [(107, 108), (0, (c : Int))] [] (h.set 115 (20, ys)) = run (d + 1) m_Mo_asides 2 [(107, 108), (0, 25)] [] (h.set 115 (20, cpN xs 0 0 k c ys)) := by
  intro k
  induction k with
  | zero => intro c ys _ e; rw [show c = 25 by omega]; rfl
  | succ k ih =>
    intro c ys hy e
    have hm' : (h.set 115 (20, ys))[108]? = some (7, hM le pl be to va br un ke la ma) := by rw [getN (by omega)]; exact hm
    have r1 : rdr 7 (h.set 115 (20, ys)) 108 14 = some 115 := hmr hm' rfl (by omega)
    have r2 : rdr 7 (h.set 115 (20, ys)) 108 0 = some 109 := hmr hm' rfl (by omega)
    have r4 : rda 20 (h.set 115 (20, ys)) 109 (c : Int) = some (xs.getD (c : Int).toNat 0) := rdA (n := 109) (xs := xs) (by rw [getN (by omega)]; exact eS) (by omega) (by omega)
    have r5 : ∀ v : Int, wra 20 (h.set 115 (20, ys)) 115 (c : Int) v = some ((h.set 115 (20, ys)).set 115 (20, ys.set (c : Int).toNat v)) := fun v => wra_i (n := 115) (getS hD) (by omega) (by omega) v
    rw [k_Mo_asides_2, if_pos (by omega), r1, Option.bind_some, r2, Option.bind_some, r4, Option.bind_some, r5, Option.bind_some, List.set_set, add_id (x := (c : Int)) (by omega) (by omega)]
    rw [show (c : Int).toNat = 0 + c by omega]
    exact ih (c + 1) _ (by rw [List.length_set]; exact hy) (by omega)
theorem m_bk2 (hm : h[108]? = some (7, hM le pl be to va br un ke la ma)) (eS : h[115]? = some (20, xs)) (lS : 0 + 25 ≤ xs.length) (hD : 109 < h.length) : ∀ (k c : Nat) (ys : List Int), 0 + 25 ≤ ys.length → c + k = 25 → run (d + 1) m_Mo_backs 2 [(107, 108), (0, (c : Int))] [] (h.set 109 (20, ys)) = run (d + 1) m_Mo_backs 2 [(107, 108), (0, 25)] [] (h.set 109 (20, cpN xs 0 0 k c ys)) := by
  intro k
  induction k with
  | zero => intro c ys _ e; rw [show c = 25 by omega]; rfl
  | succ k ih =>
    intro c ys hy e
    have hm' : (h.set 109 (20, ys))[108]? = some (7, hM le pl be to va br un ke la ma) := by rw [getN (by omega)]; exact hm
    have r1 : rdr 7 (h.set 109 (20, ys)) 108 0 = some 109 := hmr hm' rfl (by omega)
    have r2 : rdr 7 (h.set 109 (20, ys)) 108 14 = some 115 := hmr hm' rfl (by omega)
    have r4 : rda 20 (h.set 109 (20, ys)) 115 (c : Int) = some (xs.getD (c : Int).toNat 0) := rdA (n := 115) (xs := xs) (by rw [getN (by omega)]; exact eS) (by omega) (by omega)
    have r5 : ∀ v : Int, wra 20 (h.set 109 (20, ys)) 109 (c : Int) v = some ((h.set 109 (20, ys)).set 109 (20, ys.set (c : Int).toNat v)) := fun v => wra_i (n := 109) (getS hD) (by omega) (by omega) v
    rw [k_Mo_backs_2, if_pos (by omega), r1, Option.bind_some, r2, Option.bind_some, r4, Option.bind_some, r5, Option.bind_some, List.set_set, add_id (x := (c : Int)) (by omega) (by omega)]
    rw [show (c : Int).toNat = 0 + c by omega]
    exact ih (c + 1) _ (by rw [List.length_set]; exact hy) (by omega)
theorem m_bg2 {t : Int} (t0 : 0 ≤ t) (t6 : t < 6) (hm : h[108]? = some (7, hM le pl be to va br un ke la ma)) (eS : h[109]? = some (20, xs)) (lS : 0 + 25 ≤ xs.length) (hD : 116 < h.length) : ∀ (k c : Nat) (ys : List Int), (25 * t.toNat) + 25 ≤ ys.length → c + k = 25 → run (d + 1) m_Mo_begins 2 [(107, 108), (0, t), (0, (c : Int))] [] (h.set 116 (20, ys)) = run (d + 1) m_Mo_begins 2 [(107, 108), (0, t), (0, 25)] [] (h.set 116 (20, cpN xs 0 (25 * t.toNat) k c ys)) := by
  intro k
  induction k with
  | zero => intro c ys _ e; rw [show c = 25 by omega]; rfl
  | succ k ih =>
    intro c ys hy e
    have hm' : (h.set 116 (20, ys))[108]? = some (7, hM le pl be to va br un ke la ma) := by rw [getN (by omega)]; exact hm
    have r1 : rdr 7 (h.set 116 (20, ys)) 108 15 = some 116 := hmr hm' rfl (by omega)
    have r2 : rdr 7 (h.set 116 (20, ys)) 108 0 = some 109 := hmr hm' rfl (by omega)
    have r4 : rda 20 (h.set 116 (20, ys)) 109 (c : Int) = some (xs.getD (c : Int).toNat 0) := rdA (n := 109) (xs := xs) (by rw [getN (by omega)]; exact eS) (by omega) (by omega)
    have r5 : ∀ v : Int, wra 20 (h.set 116 (20, ys)) 116 (25 * t + (c : Int)) v = some ((h.set 116 (20, ys)).set 116 (20, ys.set (25 * t + (c : Int)).toNat v)) := fun v => wra_i (n := 116) (getS hD) (by omega) (by omega) v
    rw [k_Mo_begins_2, if_pos (by omega), r1, Option.bind_some, r2, Option.bind_some, r4, Option.bind_some, mul_id (by omega) (by omega), add_id (x := 25 * t) (by omega) (by omega), r5, Option.bind_some, List.set_set, add_id (x := (c : Int)) (by omega) (by omega)]
    rw [show (c : Int).toNat = 0 + c by omega, show (25 * t + (c : Int)).toNat = (25 * t.toNat) + c by omega]
    exact ih (c + 1) _ (by rw [List.length_set]; exact hy) (by omega)
theorem m_lb2 {t : Int} (t0 : 0 ≤ t) (t6 : t < 6) (hm : h[108]? = some (7, hM le pl be to va br un ke la ma)) (eS : h[116]? = some (20, xs)) (lS : (25 * t.toNat) + 25 ≤ xs.length) (hD : 109 < h.length) : ∀ (k c : Nat) (ys : List Int), 0 + 25 ≤ ys.length → c + k = 25 → run (d + 1) m_Mo_laysBack 2 [(107, 108), (0, t), (0, (c : Int))] [] (h.set 109 (20, ys)) = run (d + 1) m_Mo_laysBack 2 [(107, 108), (0, t), (0, 25)] [] (h.set 109 (20, cpN xs (25 * t.toNat) 0 k c ys)) := by
  intro k
  induction k with
  | zero => intro c ys _ e; rw [show c = 25 by omega]; rfl
  | succ k ih =>
    intro c ys hy e
    have hm' : (h.set 109 (20, ys))[108]? = some (7, hM le pl be to va br un ke la ma) := by rw [getN (by omega)]; exact hm
    have r1 : rdr 7 (h.set 109 (20, ys)) 108 0 = some 109 := hmr hm' rfl (by omega)
    have r2 : rdr 7 (h.set 109 (20, ys)) 108 15 = some 116 := hmr hm' rfl (by omega)
    have r4 : rda 20 (h.set 109 (20, ys)) 116 (25 * t + (c : Int)) = some (xs.getD (25 * t + (c : Int)).toNat 0) := rdA (n := 116) (xs := xs) (by rw [getN (by omega)]; exact eS) (by omega) (by omega)
    have r5 : ∀ v : Int, wra 20 (h.set 109 (20, ys)) 109 (c : Int) v = some ((h.set 109 (20, ys)).set 109 (20, ys.set (c : Int).toNat v)) := fun v => wra_i (n := 109) (getS hD) (by omega) (by omega) v
    rw [k_Mo_laysBack_2, if_pos (by omega), r1, Option.bind_some, r2, Option.bind_some, mul_id (by omega) (by omega), add_id (x := 25 * t) (by omega) (by omega), r4, Option.bind_some, r5, Option.bind_some, List.set_set, add_id (x := (c : Int)) (by omega) (by omega)]
    rw [show (25 * t + (c : Int)).toNat = (25 * t.toNat) + c by omega, show (c : Int).toNat = 0 + c by omega]
    exact ih (c + 1) _ (by rw [List.length_set]; exact hy) (by omega)
theorem m_cl2 {v : AV} (hm : h[108]? = some (7, hM le pl be to va br un ke la ma)) (eS : h[110]? = some (20, xs)) (lS : 0 + 25 ≤ xs.length) (hD : 112 < h.length) : ∀ (k c : Nat) (ys : List Int), 0 + 25 ≤ ys.length → c + k = 25 → run (d + 1) m_Mo_clauses 2 [(107, 108), (0, (c : Int)), v] [] (h.set 112 (20, ys)) = run (d + 1) m_Mo_clauses 2 [(107, 108), (0, 25), v] [] (h.set 112 (20, cpN xs 0 0 k c ys)) := by
  intro k
  induction k with
  | zero => intro c ys _ e; rw [show c = 25 by omega]; rfl
  | succ k ih =>
    intro c ys hy e
    have hm' : (h.set 112 (20, ys))[108]? = some (7, hM le pl be to va br un ke la ma) := by rw [getN (by omega)]; exact hm
    have r1 : rdr 7 (h.set 112 (20, ys)) 108 9 = some 112 := hmr hm' rfl (by omega)
    have r2 : rdr 7 (h.set 112 (20, ys)) 108 1 = some 110 := hmr hm' rfl (by omega)
    have r4 : rda 20 (h.set 112 (20, ys)) 110 (c : Int) = some (xs.getD (c : Int).toNat 0) := rdA (n := 110) (xs := xs) (by rw [getN (by omega)]; exact eS) (by omega) (by omega)
    have r5 : ∀ v : Int, wra 20 (h.set 112 (20, ys)) 112 (c : Int) v = some ((h.set 112 (20, ys)).set 112 (20, ys.set (c : Int).toNat v)) := fun v => wra_i (n := 112) (getS hD) (by omega) (by omega) v
    rw [k_Mo_clauses_2, if_pos (by omega), r1, Option.bind_some, r2, Option.bind_some, r4, Option.bind_some, r5, Option.bind_some, List.set_set, add_id (x := (c : Int)) (by omega) (by omega)]
    rw [show (c : Int).toNat = 0 + c by omega]
    exact ih (c + 1) _ (by rw [List.length_set]; exact hy) (by omega)
end CP
