/-! The whole class made. -/
def SS (scr xs : List Int) (L : AH) : AH := (26, scr) :: (26, ovr) :: (6, xs) :: L
section MAKE
variable {scr xs : List Int} {L : AH} {d : Nat}
theorem ss_app (M : AH) : SS scr xs L ++ M = SS scr xs (L ++ M) := rfl
theorem ss_len : (SS scr xs L).length = L.length + 3 := rfl
theorem ss_wr {k : Nat} (hk : k < xs.length) (v : Int) : wrf 6 (SS scr xs L) 2 k v = some (SS scr (xs.set k v) L) := wrf_n (n := 2) (h := SS scr xs L) (xs := xs) rfl hk v
theorem ss_bd : cal (d + 2) m_Bd_init [(100, Int.ofNat (SS scr xs L).length)] (SS scr xs L ++ [(0, am_ini 0)]) = some (0, SS scr xs (L ++ bdC (L.length + 3) (bd0 3))) := c_bdInit
theorem ss_te : cal (d + 1) m_Te_init [(105, Int.ofNat (SS scr xs L).length)] (SS scr xs L ++ [(5, am_ini 5)]) = some (0, SS scr xs (L ++ teC (L.length + 3))) := c_teInit
theorem ss_fo : cal (d + 3) m_Fo_init [(103, Int.ofNat (SS scr xs L).length)] (SS scr xs L ++ [(3, am_ini 3)]) = some (0, SS scr xs (L ++ foC (L.length + 3))) := c_foInit
theorem ss_si : cal (d + 1) m_Si_init [(104, Int.ofNat (SS scr xs L).length)] (SS scr xs L ++ [(4, am_ini 4)]) = some (0, SS scr xs (L ++ siC (L.length + 3))) := c_siInit
theorem ss_bs : cal (d + 2) m_Bs_init [(102, Int.ofNat (SS scr xs L).length)] (SS scr xs L ++ [(2, am_ini 2)]) = some (0, SS scr xs (L ++ bsC (L.length + 3))) := c_bsInit
def ssF : List Int := [3, 7, 11, 15, 16, 17, 18, 20, 46, 51, 0]
def ssA : AH := bdC 3 (bd0 3) ++ (bdC 7 (bd0 3) ++ bdC 11 (bd0 3))
def ssB : AH := (21, [0, 0]) :: (teC 18 ++ (foC 20 ++ (siC 46 ++ bsC 51)))
theorem c_ssHead : cal (d + 4) m_Ss_init [(106, 2)] (SS scr (am_ini 6) []) = run (d + 4) m_Ss_init 112 [(106, 2), (0, 0)] [] (SS scr ssF (ssA ++ (24, List.replicate 8 (-1)) :: (24, List.replicate 2 (-1)) :: ssB)) := by
  rw [k_Ss_init, ss_bd, Option.bind_some, ss_wr (by simp [am_ini, am_ft]), Option.bind_some, ss_bd, Option.bind_some, ss_wr (by simp [am_ini, am_ft]), Option.bind_some, ss_bd, Option.bind_some, ss_wr (by simp [am_ini, am_ft]), Option.bind_some]
  rw [ss_app, ss_wr (by simp [am_ini, am_ft]), Option.bind_some, ss_app, ss_wr (by simp [am_ini, am_ft]), Option.bind_some, ss_app, ss_wr (by simp [am_ini, am_ft]), Option.bind_some]
  rw [ss_te, Option.bind_some, ss_wr (by simp [am_ini, am_ft]), Option.bind_some, ss_fo, Option.bind_some, ss_wr (by simp [am_ini, am_ft]), Option.bind_some, ss_si, Option.bind_some, ss_wr (by simp [am_ini, am_ft]), Option.bind_some, ss_bs, Option.bind_some, ss_wr (by simp [am_ini, am_ft]), Option.bind_some, ss_wr (by simp [am_ini, am_ft]), Option.bind_some]
  rfl
end MAKE
