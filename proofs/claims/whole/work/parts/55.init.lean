/-! Text, Sightings, Boxes made. -/
def teC (n : Nat) : AH := [(5, [((n + 1 : Nat) : Int), 0, 0, 0, 0]), (22, List.replicate 200 0)]
theorem c_teInit {K : AH} {d : Nat} : cal (d + 1) m_Te_init [(105, Int.ofNat K.length)] (K ++ [(5, am_ini 5)]) = some (0, K ++ teC K.length) := by
  rw [k_Te_init, List.append_assoc]
  show (wrf 5 (K ++ (5, [-1, 0, 0, 0, 0]) :: [(22, List.replicate 200 0)]) (Int.ofNat K.length) 0 (Int.ofNat (K ++ [(5, am_ini 5)]).length)).bind _ = _
  rw [wrfA (by simp), Option.bind_some, wrfA (by simp), Option.bind_some, wrfA (by simp), Option.bind_some, wrfA (by simp), Option.bind_some, wrfA (by simp), Option.bind_some, List.length_append]
  rfl
def siC (n : Nat) : AH := [(4, [((n + 1 : Nat) : Int), ((n + 2 : Nat) : Int), ((n + 3 : Nat) : Int), ((n + 4 : Nat) : Int), 0]), (20, List.replicate 6 0), (20, List.replicate 6 0), (21, List.replicate 6 0), (21, List.replicate 6 0)]
theorem c_siInit {K : AH} {d : Nat} : cal (d + 1) m_Si_init [(104, Int.ofNat K.length)] (K ++ [(4, am_ini 4)]) = some (0, K ++ siC K.length) := by
  rw [k_Si_init, List.append_assoc]
  show (wrf 4 (K ++ (4, [-1, -1, -1, -1, 0]) :: [(20, List.replicate 6 0)]) (Int.ofNat K.length) 0 (Int.ofNat (K ++ [(4, am_ini 4)]).length)).bind _ = _
  rw [wrfA (by simp), Option.bind_some, List.append_assoc, List.cons_append, wrfA (by simp), Option.bind_some, List.append_assoc, List.cons_append, wrfA (by simp), Option.bind_some, List.append_assoc, List.cons_append, wrfA (by simp), Option.bind_some, wrfA (by simp), Option.bind_some]
  simp only [List.length_append, List.length_cons, List.length_nil]
  rfl
def bxC (n : Nat) : AH := [(1, [((n + 1 : Nat) : Int), ((n + 2 : Nat) : Int), 0, 0, 0, -1]), (20, List.replicate 4 0), (20, List.replicate 4 0)]
theorem c_bxInit {K : AH} {d : Nat} : cal (d + 1) m_Bx_init [(101, Int.ofNat K.length)] (K ++ [(1, am_ini 1)]) = some (0, K ++ bxC K.length) := by
  rw [k_Bx_init, List.append_assoc]
  show (wrf 1 (K ++ (1, [-1, -1, 0, 0, 0, 0]) :: [(20, List.replicate 4 0)]) (Int.ofNat K.length) 0 (Int.ofNat (K ++ [(1, am_ini 1)]).length)).bind _ = _
  rw [wrfA (by simp), Option.bind_some, List.append_assoc, List.cons_append, wrfA (by simp), Option.bind_some, wrfA (by simp), Option.bind_some, wrfA (by simp), Option.bind_some]
  unfold wrfb
  rw [if_pos (Or.inl rfl), wrfA (by simp), Option.bind_some, wrfA (by simp), Option.bind_some]
  simp only [List.length_append, List.length_cons, List.length_nil]
  rfl
theorem c_bsStep {K M : AH} {d : Nat} {ys : List Int} {c : Int} (h0 : 0 ≤ c) (h1 : c < 5) (hy : ys.length = 5) : run (d + 2) m_Bs_init 14 [(102, Int.ofNat K.length), (0, c)] [] (K ++ (2, [((K.length + 1 : Nat) : Int)]) :: (25, ys) :: M) = run (d + 2) m_Bs_init 14 [(102, Int.ofNat K.length), (0, c + 1)] [] (K ++ (2, [((K.length + 1 : Nat) : Int)]) :: (25, ys.set c.toNat ((K.length + 2 + M.length : Nat) : Int)) :: (M ++ bxC (K.length + 2 + M.length))) := by
  have hlen : (K ++ (2, [((K.length + 1 : Nat) : Int)]) :: (25, ys) :: M).length = K.length + 2 + M.length := by simp; omega
  have hr : rdr 2 (K ++ (2, [((K.length + 1 : Nat) : Int)]) :: (25, ys) :: M) (Int.ofNat K.length) 0 = some ((K.length + 1 : Nat) : Int) := rdr_n (getA (h := K)) rfl (by omega)
  rw [k_Bs_init_14, if_pos (by omega), hr, Option.bind_some, c_bxInit, Option.bind_some, hlen]
  show (wra 25 ((K ++ (2, [((K.length + 1 : Nat) : Int)]) :: (25, ys) :: M) ++ bxC (K.length + 2 + M.length)) ((K.length + 1 : Nat) : Int) c _).bind _ = _
  rw [List.append_assoc, List.cons_append, List.cons_append, wraA1 h0 (by rw [hy]; omega), Option.bind_some, add_id (by omega) (by omega)]
  rfl
def bsC (n : Nat) : AH := (2, [((n + 1 : Nat) : Int)]) :: (25, [((n + 2 : Nat) : Int), ((n + 5 : Nat) : Int), ((n + 8 : Nat) : Int), ((n + 11 : Nat) : Int), ((n + 14 : Nat) : Int)]) :: (bxC (n + 2) ++ (bxC (n + 5) ++ (bxC (n + 8) ++ (bxC (n + 11) ++ bxC (n + 14)))))
theorem c_bsInit {K : AH} {d : Nat} : cal (d + 2) m_Bs_init [(102, Int.ofNat K.length)] (K ++ [(2, am_ini 2)]) = some (0, K ++ bsC K.length) := by
  rw [k_Bs_init, List.append_assoc]
  show (wrf 2 (K ++ (2, [-1]) :: [(25, List.replicate 5 (-1))]) (Int.ofNat K.length) 0 (Int.ofNat (K ++ [(2, am_ini 2)]).length)).bind _ = _
  rw [wrfA (by simp), Option.bind_some, List.length_append]
  show run (d + 2) m_Bs_init 14 [(102, Int.ofNat K.length), (0, 0)] [] (K ++ (2, [((K.length + 1 : Nat) : Int)]) :: (25, [-1, -1, -1, -1, -1]) :: []) = _
  rw [c_bsStep (by omega) (by omega) rfl, c_bsStep (by omega) (by omega) rfl, c_bsStep (by omega) (by omega) rfl, c_bsStep (by omega) (by omega) rfl, c_bsStep (by omega) (by omega) rfl, k_Bs_init_14, if_neg (by omega)]
  rfl
