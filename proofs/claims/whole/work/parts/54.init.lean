/-! The other parts made. -/
theorem getA1 {h L : AH} {c0 c1 : Nat × List Int} : (h ++ c0 :: c1 :: L)[h.length + 1]? = some c1 := by
  rw [List.getElem?_append_right (by omega), show h.length + 1 - h.length = 1 by omega]; rfl
theorem wraA1 {h L : AH} {t : Nat} {c0 : Nat × List Int} {xs : List Int} {i : Int} (h0 : 0 ≤ i) (hk : i.toNat < xs.length) (v : Int) : wra t (h ++ c0 :: (t, xs) :: L) ((h.length + 1 : Nat) : Int) i v = some (h ++ c0 :: (t, xs.set i.toNat v) :: L) := by
  rw [wra_i (getA1 (h := h) (L := L) (c0 := c0) (c1 := (t, xs))) h0 hk v, List.set_append_right _ _ (by omega), show h.length + 1 - h.length = 1 by omega]
  rfl
/-- one more Board behind -/
theorem c_foStep {K M : AH} {d : Nat} {f : Int} {ys : List Int} {c : Int} (h0 : 0 ≤ c) (h1 : c ≤ 5) (hy : ys.length = 6) : run (d + 3) m_Fo_init 20 [(103, Int.ofNat K.length), (0, c)] [] (K ++ (3, [((K.length + 1 : Nat) : Int), f]) :: (24, ys) :: M) = run (d + 3) m_Fo_init 20 [(103, Int.ofNat K.length), (0, c + 1)] [] (K ++ (3, [((K.length + 1 : Nat) : Int), f]) :: (24, ys.set c.toNat ((K.length + 2 + M.length : Nat) : Int)) :: (M ++ bdC (K.length + 2 + M.length) (bd0 3))) := by
  have hlen : (K ++ (3, [((K.length + 1 : Nat) : Int), f]) :: (24, ys) :: M).length = K.length + 2 + M.length := by simp; omega
  have hr : rdr 3 (K ++ (3, [((K.length + 1 : Nat) : Int), f]) :: (24, ys) :: M) (Int.ofNat K.length) 0 = some ((K.length + 1 : Nat) : Int) := rdr_n (getA (h := K)) rfl (by omega)
  rw [k_Fo_init_20, if_neg (by omega), hr, Option.bind_some, c_bdInit, Option.bind_some, hlen]
  show (wra 24 ((K ++ (3, [((K.length + 1 : Nat) : Int), f]) :: (24, ys) :: M) ++ bdC (K.length + 2 + M.length) (bd0 3)) ((K.length + 1 : Nat) : Int) c _).bind _ = _
  rw [List.append_assoc, List.cons_append, List.cons_append, wraA1 h0 (by rw [hy]; omega), Option.bind_some, add_id (by omega) (by omega)]
  rfl
def foC (n : Nat) : AH := (3, [((n + 1 : Nat) : Int), -1]) :: (24, [((n + 2 : Nat) : Int), ((n + 6 : Nat) : Int), ((n + 10 : Nat) : Int), ((n + 14 : Nat) : Int), ((n + 18 : Nat) : Int), ((n + 22 : Nat) : Int)]) :: (bdC (n + 2) (bd0 3) ++ (bdC (n + 6) (bd0 3) ++ (bdC (n + 10) (bd0 3) ++ (bdC (n + 14) (bd0 3) ++ (bdC (n + 18) (bd0 3) ++ bdC (n + 22) (bd0 3))))))
theorem c_foInit {K : AH} {d : Nat} : cal (d + 3) m_Fo_init [(103, Int.ofNat K.length)] (K ++ [(3, am_ini 3)]) = some (0, K ++ foC K.length) := by
  rw [k_Fo_init, List.append_assoc]
  show (wrf 3 (K ++ (3, [-1, 0]) :: [(24, List.replicate 6 (-1))]) (Int.ofNat K.length) 0 (Int.ofNat (K ++ [(3, am_ini 3)]).length)).bind _ = _
  rw [wrfA (by simp), Option.bind_some, wrfA (by simp), Option.bind_some, List.length_append]
  show run (d + 3) m_Fo_init 20 [(103, Int.ofNat K.length), (0, 0)] [] (K ++ (3, [((K.length + 1 : Nat) : Int), -1]) :: (24, [-1, -1, -1, -1, -1, -1]) :: []) = _
  rw [c_foStep (by omega) (by omega) rfl, c_foStep (by omega) (by omega) rfl, c_foStep (by omega) (by omega) rfl, c_foStep (by omega) (by omega) rfl, c_foStep (by omega) (by omega) rfl, c_foStep (by omega) (by omega) rfl, k_Fo_init_20, if_pos (by omega)]
  rfl
