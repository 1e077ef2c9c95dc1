/-! The boards of the past and those kept. -/
section MAKE
variable {scr : List Int} {d : Nat}
theorem getP {P Q : AH} {c : Nat × List Int} {n : Nat} (hn : P.length = n) : (P ++ c :: Q)[n]? = some c := by subst hn; exact getA
theorem wraP {P Q : AH} {t n : Nat} {xs : List Int} {i : Int} (hn : P.length = n) (h0 : 0 ≤ i) (hk : i.toNat < xs.length) (v : Int) : wra t (P ++ (t, xs) :: Q) (n : Int) i v = some (P ++ (t, xs.set i.toNat v) :: Q) := by
  subst hn
  rw [wra_i (getA (h := P) (L := Q) (c := (t, xs))) h0 hk v, List.set_append_right _ _ (Nat.le_refl _), Nat.sub_self]
  rfl
theorem c_pastStep {P Q : AH} {ys : List Int} {c : Int} (hP : P.length = 15) (hr : P[2]? = some (6, ssF)) (h0 : 0 ≤ c) (h1 : c < 8) (hy : ys.length = 8) : run (d + 3) m_Ss_init 112 [(106, 2), (0, c)] [] (P ++ (24, ys) :: Q) = run (d + 3) m_Ss_init 112 [(106, 2), (0, c + 1)] [] (P ++ (24, ys.set c.toNat ((16 + Q.length : Nat) : Int)) :: (Q ++ bdC (16 + Q.length) (bd0 3))) := by
  have hlen : (P ++ (24, ys) :: Q).length = 16 + Q.length := by simp; omega
  have hc : (P ++ (24, ys) :: Q)[2]? = some (6, ssF) := by rw [List.getElem?_append_left (by omega)]; exact hr
  rw [k_Ss_init_112, if_pos h1, show rdr 6 (P ++ (24, ys) :: Q) 2 3 = some 15 from rdr_n (n := 2) hc rfl (by omega), Option.bind_some, c_bdInit, Option.bind_some, hlen]
  show (wra 24 ((P ++ (24, ys) :: Q) ++ bdC (16 + Q.length) (bd0 3)) 15 c _).bind _ = _
  rw [List.append_assoc, List.cons_append, show (15 : Int) = ((15 : Nat) : Int) from rfl, wraP hP h0 (by rw [hy]; omega), Option.bind_some, add_id (by omega) (by omega)]
  rfl
theorem c_keptStep {P Q : AH} {ys : List Int} {c : Int} (hP : P.length = 16) (hr : P[2]? = some (6, ssF)) (h0 : 0 ≤ c) (h1 : c < 2) (hy : ys.length = 2) : run (d + 3) m_Ss_init 139 [(106, 2), (0, c)] [] (P ++ (24, ys) :: Q) = run (d + 3) m_Ss_init 139 [(106, 2), (0, c + 1)] [] (P ++ (24, ys.set c.toNat ((17 + Q.length : Nat) : Int)) :: (Q ++ bdC (17 + Q.length) (bd0 3))) := by
  have hlen : (P ++ (24, ys) :: Q).length = 17 + Q.length := by simp; omega
  have hc : (P ++ (24, ys) :: Q)[2]? = some (6, ssF) := by rw [List.getElem?_append_left (by omega)]; exact hr
  rw [k_Ss_init_139, if_pos h1, show rdr 6 (P ++ (24, ys) :: Q) 2 4 = some 16 from rdr_n (n := 2) hc rfl (by omega), Option.bind_some, c_bdInit, Option.bind_some, hlen]
  show (wra 24 ((P ++ (24, ys) :: Q) ++ bdC (17 + Q.length) (bd0 3)) 16 c _).bind _ = _
  rw [List.append_assoc, List.cons_append, show (16 : Int) = ((16 : Nat) : Int) from rfl, wraP hP h0 (by rw [hy]; omega), Option.bind_some, add_id (by omega) (by omega)]
  rfl
def ssG : AH := bdC 68 (bd0 3) ++ (bdC 72 (bd0 3) ++ (bdC 76 (bd0 3) ++ (bdC 80 (bd0 3) ++ (bdC 84 (bd0 3) ++ (bdC 88 (bd0 3) ++ (bdC 92 (bd0 3) ++ (bdC 96 (bd0 3) ++ (bdC 100 (bd0 3) ++ bdC 104 (bd0 3)))))))))
def ssH (scr : List Int) : AH := SS scr ssF (ssA ++ (24, [68, 72, 76, 80, 84, 88, 92, 96]) :: (24, [100, 104]) :: (ssB ++ ssG))
theorem c_ssInit : cal (d + 4) m_Ss_init [(106, 2)] (SS scr (am_ini 6) []) = some (0, ssH scr) := by
  rw [c_ssHead]
  show run (d + 4) m_Ss_init 112 [(106, 2), (0, 0)] [] (SS scr ssF ssA ++ (24, List.replicate 8 (-1)) :: ((24, List.replicate 2 (-1)) :: ssB)) = _
  rw [c_pastStep rfl rfl (by omega) (by omega) rfl, c_pastStep rfl rfl (by omega) (by omega) rfl, c_pastStep rfl rfl (by omega) (by omega) rfl, c_pastStep rfl rfl (by omega) (by omega) rfl, c_pastStep rfl rfl (by omega) (by omega) rfl, c_pastStep rfl rfl (by omega) (by omega) rfl, c_pastStep rfl rfl (by omega) (by omega) rfl, c_pastStep rfl rfl (by omega) (by omega) rfl, k_Ss_init_112, if_neg (by omega)]
  show run (d + 4) m_Ss_init 139 [(106, 2), (0, 0)] [] (SS scr ssF (ssA ++ [(24, [68, 72, 76, 80, 84, 88, 92, 96])]) ++ (24, List.replicate 2 (-1)) :: (ssB ++ (bdC 68 (bd0 3) ++ (bdC 72 (bd0 3) ++ (bdC 76 (bd0 3) ++ (bdC 80 (bd0 3) ++ (bdC 84 (bd0 3) ++ (bdC 88 (bd0 3) ++ (bdC 92 (bd0 3) ++ bdC 96 (bd0 3)))))))))) = _
  rw [c_keptStep rfl rfl (by omega) (by omega) rfl, c_keptStep rfl rfl (by omega) (by omega) rfl, k_Ss_init_139, if_neg (by omega)]
  rfl
end MAKE
