/-! board. -/
def AC (j : Nat) : Prop := (2 ≤ j ∧ j < 15) ∨ j = 17 ∨ j = 18 ∨ j = 46 ∨ (53 ≤ j ∧ j < 68)
section OPS
variable {scr : List Int}
/-- the class's end of a board told -/
theorem c_told {h g : AH} {L : List Int} {le un ke ma cl st en : Int} {B C D T : Bo} {Z : Nat → Bk} (hl : g.length = 130) (iS : SsI g un) (S : CS g L le cl st en D) (HT : BdH g 3 T) (OT : BoOK T) (HB : BdH g 11 B) (OB : BoOK B) (iK : KeI g ke) (iI : SiI g ma) (X : XH g Z) (m : ZM Z) : ∃ (g8 : AH) (Y : Nat → Bk), (cal 58 m_Bd_copy [(100, 3), (100, 7)] g).bind (fun q9 => (rdr 6 q9.2 2 2).bind (fun y10 => (rdr 6 q9.2 2 0).bind (fun y11 => (cal 58 m_Bd_copy [(100, y10), (100, y11)] q9.2).bind (fun q12 => (wrf 6 q12.2 2 10 0).bind (fun h13 => run 59 m_Ss_board 58 [(106, 2), (0, 0)] [] h13))))) = some (cl, g8) ∧ Fr AC g g8 ∧ SsI g8 0 ∧ BdH g8 3 D ∧ BdH g8 7 D ∧ BdH g8 11 D ∧ KeI g8 0 ∧ SiI g8 0 ∧ g8[18]? = some (5, [19, 0, cl, st, en]) ∧ XH g8 Y ∧ ZM Y ∧ ∀ j, j < 5 → (Y j).t = 0 ∧ (Y j).n = -1 := by
  have OD := S.2.2.2
  have c1 : cal 58 m_Bd_copy [(100, 3), (100, 7)] g = some (0, setB g 3 D) := c_copy (n := 3) (n' := 7) HT S.2.2.1 OT OD (Or.inl (by omega))
  have F1 : Fr (fun j => 3 ≤ j ∧ j < 7) g (setB g 3 D) := fr_setB (by omega) (fun j a b => by omega)
  have H3 : BdH (setB g 3 D) 3 D := bdH_set (by omega)
  generalize setB g 3 D = g1 at *
  have c2 : cal 58 m_Bd_copy [(100, 11), (100, 3)] g1 = some (0, setB g1 11 D) := c_copy (n := 11) (n' := 3) (HB.fr F1 (fun j a b => by omega)) H3 OB OD (Or.inr (by omega))
  have F2 : Fr (fun j => 11 ≤ j ∧ j < 15) g1 (setB g1 11 D) := fr_setB (by rw [F1.len]; omega) (fun j a b => by omega)
  have H11 : BdH (setB g1 11 D) 11 D := bdH_set (by rw [F1.len]; omega)
  have s1 := iS.fr F1 (by omega)
  have s2 := s1.fr F2 (by omega)
  generalize setB g1 11 D = g2 at *
  have c3 := s2.wu 0
  have s3 := s2.st 0
  have F3 : Fr (fun j => j = 2) g2 (g2.set 2 (6, [3, 7, 11, 15, 16, 17, 18, 20, 46, 51, 0])) := fr_set rfl
  generalize g2.set 2 (6, [3, 7, 11, 15, 16, 17, 18, 20, 46, 51, 0]) = g3 at *
  have T3 : Fr (fun j => j = 2 ∨ (3 ≤ j ∧ j < 15)) g g3 := ((F1.wd (fun j z => by omega)).tr (F2.wd (fun j z => by omega))).tr (F3.wd (fun j z => by omega))
  obtain ⟨k0, k1, K0, K1, C0, C1, R, x1, x2, x3, x4, x5, x6, x7, x8, x9, x10, x11, x12, x13⟩ := iK
  have e17 : g3[17]? = some (21, [k0, k1]) := by rw [T3.g _ (by omega)]; exact x2
  have c4 : wrab 21 g3 17 0 0 = some (g3.set 17 (21, [0, k1])) := wrab_i (n := 17) e17 (by omega) (by show 0 < 2; omega) (Or.inl rfl)
  have F4 : Fr (fun j => j = 17) g3 (g3.set 17 (21, [0, k1])) := fr_set rfl
  have g17 : (g3.set 17 (21, [0, k1]))[17]? = some (21, [0, k1]) := getS (gtl e17)
  have s4 := s3.fr F4 (by omega)
  generalize g3.set 17 (21, [0, k1]) = g4 at *
  have c5 : wrab 21 g4 17 1 0 = some (g4.set 17 (21, [0, 0])) := wrab_i (n := 17) g17 (by omega) (by show 1 < 2; omega) (Or.inl rfl)
  have F5 : Fr (fun j => j = 17) g4 (g4.set 17 (21, [0, 0])) := fr_set rfl
  have g17' : (g4.set 17 (21, [0, 0]))[17]? = some (21, [0, 0]) := getS (gtl g17)
  have s5 := s4.fr F5 (by omega)
  generalize g4.set 17 (21, [0, 0]) = g5 at *
  have T5 : Fr (fun j => j = 2 ∨ (3 ≤ j ∧ j < 15) ∨ j = 17) g g5 := ((T3.wd (fun j z => by omega)).tr (F4.wd (fun j z => by omega))).tr (F5.wd (fun j z => by omega))
  obtain ⟨m0, m1, t1, t2, t3, t4, t5, y1, y2, y3, y4, y5, y6, y7⟩ := iI
  have e46 : g5[46]? = some (4, [47, 48, 49, 50, ma]) := by rw [T5.g _ (by omega)]; exact y1
  have c6 : cal 58 m_Si_clear [(104, 46)] g5 = some (0, g5.set 46 (4, [47, 48, 49, 50, 0])) := by
    rw [k_Si_clear, show wrf 4 g5 46 4 0 = some (g5.set 46 (4, [47, 48, 49, 50, 0])) from wrf_n (n := 46) e46 (by simp) 0]; rfl
  have F6 : Fr (fun j => j = 46) g5 (g5.set 46 (4, [47, 48, 49, 50, 0])) := fr_set rfl
  have g46 : (g5.set 46 (4, [47, 48, 49, 50, 0]))[46]? = some (4, [47, 48, 49, 50, 0]) := getS (gtl e46)
  have s6 := s5.fr F6 (by omega)
  generalize g5.set 46 (4, [47, 48, 49, 50, 0]) = g6 at *
  have T6 : Fr (fun j => j = 2 ∨ (3 ≤ j ∧ j < 15) ∨ j = 17 ∨ j = 46) g g6 := (T5.wd (fun j z => by omega)).tr (F6.wd (fun j z => by omega))
  obtain ⟨g7, Y, b1, b2, b3, F7, b5⟩ := c_bsClear (d := 55) 5 0 g6 Z (by omega) (X.fr T6 (fun j a b => by omega)) m (fun j hj => absurd hj (by omega))
  have c7 : cal 58 m_Bs_clear [(102, 51)] g6 = some (0, g7) := by rw [k_Bs_clear]; exact b1
  have s7 := s6.fr F7 (by unfold XB; omega)
  have T7 : Fr AC g g7 := (T6.wd (fun j z => by unfold AC; omega)).tr (F7.wd (fun j z => by unfold XB at z; unfold AC; omega))
  have e18 : g7[18]? = some (5, [19, le, cl, st, en]) := by rw [F7.g _ (by unfold XB; omega), T6.g _ (by omega)]; exact S.1
  have c8 : cal 58 m_Te_clear [(105, 18)] g7 = some (0, g7.set 18 (5, [19, 0, cl, st, en])) := by
    rw [k_Te_clear, show wrf 5 g7 18 1 0 = some (g7.set 18 (5, [19, 0, cl, st, en])) from wrf_n (n := 18) e18 (by simp) 0]; rfl
  have F8 : Fr (fun j => j = 18) g7 (g7.set 18 (5, [19, 0, cl, st, en])) := fr_set rfl
  have g18 : (g7.set 18 (5, [19, 0, cl, st, en]))[18]? = some (5, [19, 0, cl, st, en]) := getS (gtl e18)
  have s8 := s7.fr F8 (by omega)
  generalize g7.set 18 (5, [19, 0, cl, st, en]) = g8 at *
  have c9 : cal 58 m_Te_clauses [(105, 18)] g8 = some (cl, g8) := by
    rw [k_Te_clauses, show rdf 5 g8 18 2 = some cl from rdf_n (n := 18) g18 2]; rfl
  have T8 : Fr AC g g8 := T7.tr (F8.wd (fun j z => by unfold AC; omega))
  -- from g3 on only these
  have U : Fr (fun j => j = 17 ∨ j = 18 ∨ j = 46 ∨ (53 ≤ j ∧ j < 68)) g3 g8 := ((((F4.wd (fun j z => by omega)).tr (F5.wd (fun j z => by omega))).tr (F6.wd (fun j z => by omega))).tr (F7.wd (fun j z => by unfold XB at z; omega))).tr (F8.wd (fun j z => by omega))
  have NA : ∀ j, ¬ ((2 ≤ j ∧ j < 15) ∨ j = 17 ∨ j = 18 ∨ j = 46 ∨ (53 ≤ j ∧ j < 68)) → ¬ AC j := fun j z => z
  have q17 : g8[17]? = some (21, [0, 0]) := by rw [F8.g _ (by omega), F7.g _ (by unfold XB; omega), F6.g _ (by omega)]; exact g17'
  have q46 : g8[46]? = some (4, [47, 48, 49, 50, 0]) := by rw [F8.g _ (by omega), F7.g _ (by unfold XB; omega)]; exact g46
  refine ⟨g8, Y, ?_, T8, s8, ?_, ?_, ?_, ⟨0, 0, K0, K1, C0, C1, R, ?_, q17, x3.fr T8 (fun j a b => NA _ (by omega)), x4.fr T8 (fun j a b => NA _ (by omega)), x5, x6, ?_, x8, Or.inl rfl, Or.inl rfl, by omega, fun z => absurd z (by decide), fun z => absurd z (by decide)⟩, ⟨by omega, by omega, t1, t2, t3, t4, t5, q46, ?_, ?_, ?_, ?_, ?_, y7⟩, g18, b2.fr F8 (fun j a b => by omega), b3, b5⟩
  · rw [c1, Option.bind_some]
    simp only [s1.r2, s1.r0, c2, c3, Option.bind_some]
    rw [k_Ss_board_58, if_pos (by decide), s3.r5, Option.bind_some, c4, Option.bind_some, show a_add 0 1 = 1 from add_id (by decide) (by decide), k_Ss_board_58, if_pos (by decide), s4.r5, Option.bind_some, c5, Option.bind_some, show a_add 1 1 = 2 from add_id (by decide) (by decide), k_Ss_board_58, if_neg (by decide)]
    simp only [s5.r8, c6, s6.r9, c7, s7.r6, c8, s8.r6, c9, Option.bind_some]
  · exact ((H3.fr F2 (fun j a b => by omega)).fr F3 (fun j a b => by omega)).fr U (fun j a b => by omega)
  · exact (((S.2.2.1.fr F1 (fun j a b => by omega)).fr F2 (fun j a b => by omega)).fr F3 (fun j a b => by omega)).fr U (fun j a b => by omega)
  · exact (H11.fr F3 (fun j a b => by omega)).fr U (fun j a b => by omega)
  · rw [T8.g _ (NA _ (by omega))]; exact x1
  · rw [T8.g _ (NA _ (by omega))]; exact x7
  · rw [T8.g _ (NA _ (by omega))]; exact y2
  · rw [T8.g _ (NA _ (by omega))]; exact y3
  · rw [T8.g _ (NA _ (by omega))]; exact y4
  · rw [T8.g _ (NA _ (by omega))]; exact y5
  · rw [T8.g _ (NA _ (by omega))]; exact y6
end OPS
