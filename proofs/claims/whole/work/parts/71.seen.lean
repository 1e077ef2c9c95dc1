/-! What was seen. -/
theorem gds {l : List Int} {i j : Nat} {v : Int} (h : i < l.length) : (l.set i v).getD j 0 = if i = j then v else l.getD j 0 := by
  rw [gdE, List.getElem?_set]
  by_cases e : i = j
  · rw [if_pos e, if_pos h, if_pos e]; rfl
  · rw [if_neg e, if_neg e, ← gdE]
theorem inv_si {scr : List Int} {h h2 : AH} {le un ke ma : Int} {B C : Bo} (hl : h.length = 130) (hs : h[0]? = some (26, scr)) (ho : h[1]? = some (26, ovr)) (iS : SsI h un) (iN : NoI h B C) (iT : ToI h) (iP : PaI h un) (iK : KeI h ke) (iX : TeI h le) (iF : FoI h) (iW : WoI h) (iB : BxI h) (T : Fr (fun j => (46 ≤ j ∧ j < 51) ∨ j = 108 ∨ j = 122) h h2) (m : MhI h2 le un ke ma) (x : SiI h2 ma) : Inv scr h2 :=
  ⟨T.len.trans hl, by rw [T.g 0 (by omega)]; exact hs, by rw [T.g 1 (by omega)]; exact ho, le, un, ke, ma, B, C, iS.fr T (by omega), m, iN.fr T (fun j a b => by omega) (by omega), iT.fr T (fun j a b => by omega) (by omega), iP.fr T (by omega) (by omega) (fun j a b => by omega), iK.fr T (by omega) (by omega) (by omega) (fun j a b => by omega), iX.fr T (by omega) (by omega) (by omega), iF.fr T (fun j a b => by omega), iW.fr T (by omega) (by omega) (fun j a b => by omega) (by omega) (by omega), x, iB.fr T (fun j a b => by omega) (fun j a b => by omega)⟩
theorem SiR.add {s1 s2 s3 s4 s5 : List Int} (R : SiR s1 s2 s3 s4 s5) {m : Nat} (hm : m < 6) {g l t y : Int} (g0 : 0 ≤ g ∧ g ≤ 20) (l0 : 0 ≤ l ∧ l ≤ 20) (t0 : t = 0 ∨ t = 1) (y0 : y = 0 ∨ y = 1) : SiR (s1.set m g) (s2.set m l) (s3.set m t) (s4.set m y) ((((s5.set (4 * m) g).set (4 * m + 1) l).set (4 * m + 2) t).set (4 * m + 3) y) := by
  obtain ⟨a1, a2, a3, a4, a5, q⟩ := R
  refine ⟨by simp [a1], by simp [a2], by simp [a3], by simp [a4], by simp [a5], fun k hk => ?_⟩
  have := q k hk
  have z : ∀ j : Nat, ((((s5.set (4 * m) g).set (4 * m + 1) l).set (4 * m + 2) t).set (4 * m + 3) y).getD j 0 = if 4 * m + 3 = j then y else if 4 * m + 2 = j then t else if 4 * m + 1 = j then l else if 4 * m = j then g else s5.getD j 0 := by
    intro j
    rw [gds (by simp [a5]; omega), gds (by simp [a5]; omega), gds (by simp [a5]; omega), gds (by omega)]
  rw [z, z, z, z, gds (by omega), gds (by omega), gds (by omega), gds (by omega)]
  by_cases e : m = k
  · subst e
    simp only [show ¬ 4 * m + 3 = 4 * m by omega, show ¬ 4 * m + 2 = 4 * m by omega, show ¬ 4 * m + 1 = 4 * m by omega, show ¬ 4 * m + 3 = 4 * m + 1 by omega, show ¬ 4 * m + 2 = 4 * m + 1 by omega, show ¬ 4 * m + 3 = 4 * m + 2 by omega, if_false, if_true]
    exact ⟨g0, l0, t0, y0, trivial, trivial, trivial, trivial⟩
  · simp only [show ¬ 4 * m + 3 = 4 * k by omega, show ¬ 4 * m + 2 = 4 * k by omega, show ¬ 4 * m + 1 = 4 * k by omega, show ¬ 4 * m = 4 * k by omega, show ¬ 4 * m + 3 = 4 * k + 1 by omega, show ¬ 4 * m + 2 = 4 * k + 1 by omega, show ¬ 4 * m + 1 = 4 * k + 1 by omega, show ¬ 4 * m = 4 * k + 1 by omega, show ¬ 4 * m + 3 = 4 * k + 2 by omega, show ¬ 4 * m + 2 = 4 * k + 2 by omega, show ¬ 4 * m + 1 = 4 * k + 2 by omega, show ¬ 4 * m = 4 * k + 2 by omega, show ¬ 4 * m + 3 = 4 * k + 3 by omega, show ¬ 4 * m + 2 = 4 * k + 3 by omega, show ¬ 4 * m + 1 = 4 * k + 3 by omega, show ¬ 4 * m = 4 * k + 3 by omega, e, if_false]
    exact this
theorem wrab_i {h : AH} {n t : Nat} {xs : List Int} (e : h[n]? = some (t, xs)) {i : Int} (hi : 0 ≤ i) (hk : i.toNat < xs.length) {v : Int} (hv : v = 0 ∨ v = 1) : wrab t h (n : Int) i v = some (h.set n (t, xs.set i.toNat v)) := by
  unfold wrab
  rw [if_pos hv]
  exact wra_i e hi hk v
section SEEN
variable {h : AH} {d : Nat} {ma g l t y : Int} {s1 s2 s3 s4 : List Int}
theorem c_siAdd (e46 : h[46]? = some (4, [47, 48, 49, 50, ma])) (e47 : h[47]? = some (20, s1)) (e48 : h[48]? = some (20, s2)) (e49 : h[49]? = some (21, s3)) (e50 : h[50]? = some (21, s4)) (m0 : 0 ≤ ma) (m6 : ma < 6) (l1 : s1.length = 6) (l2 : s2.length = 6) (l3 : s3.length = 6) (l4 : s4.length = 6) (t0 : t = 0 ∨ t = 1) (y0 : y = 0 ∨ y = 1) : ∃ h' : AH, cal (d + 1) m_Si_add [(104, 46), (0, g), (0, l), (0, t), (0, y)] h = some (1, h') ∧ Fr (fun j => 46 ≤ j ∧ j < 51) h h' ∧ h'[46]? = some (4, [47, 48, 49, 50, ma + 1]) ∧ h'[47]? = some (20, s1.set ma.toNat g) ∧ h'[48]? = some (20, s2.set ma.toNat l) ∧ h'[49]? = some (21, s3.set ma.toNat t) ∧ h'[50]? = some (21, s4.set ma.toNat y) := by
  have a1 : rdf 4 h 46 4 = some ma := rdf_n (n := 46) e46 4
  have a2 : rdr 4 h 46 0 = some 47 := rdr_n (n := 46) e46 rfl (by omega)
  have a3 : wra 20 h 47 ma g = some (h.set 47 (20, s1.set ma.toNat g)) := wra_i (n := 47) e47 m0 (by omega) g
  have F1 : Fr (fun j => j = 47) h (h.set 47 (20, s1.set ma.toNat g)) := fr_set rfl
  have G1 : (h.set 47 (20, s1.set ma.toNat g))[47]? = some (20, s1.set ma.toNat g) := getS (gtl e47)
  generalize h.set 47 (20, s1.set ma.toNat g) = h1 at a3 F1 G1
  have b46 : h1[46]? = some (4, [47, 48, 49, 50, ma]) := by rw [F1.g _ (by omega)]; exact e46
  have b48 : h1[48]? = some (20, s2) := by rw [F1.g _ (by omega)]; exact e48
  have b1 : rdf 4 h1 46 4 = some ma := rdf_n (n := 46) b46 4
  have b2 : rdr 4 h1 46 1 = some 48 := rdr_n (n := 46) b46 rfl (by omega)
  have b3 : wra 20 h1 48 ma l = some (h1.set 48 (20, s2.set ma.toNat l)) := wra_i (n := 48) b48 m0 (by omega) l
  have F2 : Fr (fun j => j = 48) h1 (h1.set 48 (20, s2.set ma.toNat l)) := fr_set rfl
  have G2 : (h1.set 48 (20, s2.set ma.toNat l))[48]? = some (20, s2.set ma.toNat l) := getS (gtl b48)
  generalize h1.set 48 (20, s2.set ma.toNat l) = h2 at b3 F2 G2
  have c46 : h2[46]? = some (4, [47, 48, 49, 50, ma]) := by rw [F2.g _ (by omega)]; exact b46
  have c49 : h2[49]? = some (21, s3) := by rw [F2.g _ (by omega), F1.g _ (by omega)]; exact e49
  have c1 : rdf 4 h2 46 4 = some ma := rdf_n (n := 46) c46 4
  have c2 : rdr 4 h2 46 2 = some 49 := rdr_n (n := 46) c46 rfl (by omega)
  have c3 : wrab 21 h2 49 ma t = some (h2.set 49 (21, s3.set ma.toNat t)) := wrab_i (n := 49) c49 m0 (by omega) t0
  have F3 : Fr (fun j => j = 49) h2 (h2.set 49 (21, s3.set ma.toNat t)) := fr_set rfl
  have G3 : (h2.set 49 (21, s3.set ma.toNat t))[49]? = some (21, s3.set ma.toNat t) := getS (gtl c49)
  generalize h2.set 49 (21, s3.set ma.toNat t) = h3 at c3 F3 G3
  have d46 : h3[46]? = some (4, [47, 48, 49, 50, ma]) := by rw [F3.g _ (by omega)]; exact c46
  have d50 : h3[50]? = some (21, s4) := by rw [F3.g _ (by omega), F2.g _ (by omega), F1.g _ (by omega)]; exact e50
  have d1 : rdf 4 h3 46 4 = some ma := rdf_n (n := 46) d46 4
  have d2 : rdr 4 h3 46 3 = some 50 := rdr_n (n := 46) d46 rfl (by omega)
  have d3 : wrab 21 h3 50 ma y = some (h3.set 50 (21, s4.set ma.toNat y)) := wrab_i (n := 50) d50 m0 (by omega) y0
  have F4 : Fr (fun j => j = 50) h3 (h3.set 50 (21, s4.set ma.toNat y)) := fr_set rfl
  have G4 : (h3.set 50 (21, s4.set ma.toNat y))[50]? = some (21, s4.set ma.toNat y) := getS (gtl d50)
  generalize h3.set 50 (21, s4.set ma.toNat y) = h4 at d3 F4 G4
  have f46 : h4[46]? = some (4, [47, 48, 49, 50, ma]) := by rw [F4.g _ (by omega)]; exact d46
  have f1 : rdf 4 h4 46 4 = some ma := rdf_n (n := 46) f46 4
  have f3 : wrf 4 h4 46 4 (ma + 1) = some (h4.set 46 (4, [47, 48, 49, 50, ma + 1])) := wrf_n (n := 46) f46 (by simp) _
  have F5 : Fr (fun j => j = 46) h4 (h4.set 46 (4, [47, 48, 49, 50, ma + 1])) := fr_set rfl
  have G5 : (h4.set 46 (4, [47, 48, 49, 50, ma + 1]))[46]? = some (4, [47, 48, 49, 50, ma + 1]) := getS (gtl f46)
  generalize h4.set 46 (4, [47, 48, 49, 50, ma + 1]) = h5 at f3 F5 G5
  refine ⟨h5, ?_, ((((F1.wd (fun j z => by omega)).tr (F2.wd (fun j z => by omega))).tr (F3.wd (fun j z => by omega))).tr (F4.wd (fun j z => by omega))).tr (F5.wd (fun j z => by omega)), G5, ?_, ?_, ?_, ?_⟩
  · rw [k_Si_add]
    simp only [a1, a2, a3, b1, b2, b3, c1, c2, c3, d1, d2, d3, f1, Option.bind_some]
    rw [if_pos m6, add_id (by omega) (by omega), f3]
    rfl
  · rw [F5.g _ (by omega), F4.g _ (by omega), F3.g _ (by omega), F2.g _ (by omega)]; exact G1
  · rw [F5.g _ (by omega), F4.g _ (by omega), F3.g _ (by omega)]; exact G2
  · rw [F5.g _ (by omega), F4.g _ (by omega)]; exact G3
  · rw [F5.g _ (by omega)]; exact G4
end SEEN
section OPS
variable {scr : List Int}
theorem op_forget : Op scr m_Ss_forget m_Mo_forget [] := by
  intro h I
  obtain ⟨hl, hs, ho, le, un, ke, ma, B, C, iS, ⟨pl, be, to, va, br, la, hm⟩, iN, iT, iP, iK, iX, iF, iW, ⟨m0, m1, s1, s2, s3, s4, s5, y1, y2, y3, y4, y5, y6, y7⟩, iB⟩ := id I
  have r1 : cal 58 m_Si_size [(104, 46)] h = some (ma, h) := by
    rw [k_Si_size, show rdf 4 h 46 4 = some ma from rdf_n (n := 46) y1 4]; rfl
  have w1 : cal 58 m_Si_clear [(104, 46)] h = some (0, h.set 46 (4, [47, 48, 49, 50, 0])) := by
    rw [k_Si_clear, show wrf 4 h 46 4 0 = some (h.set 46 (4, [47, 48, 49, 50, 0])) from wrf_n (n := 46) y1 (by simp) 0]; rfl
  have F1 : Fr (fun j => j = 46) h (h.set 46 (4, [47, 48, 49, 50, 0])) := fr_set rfl
  have g18 : (h.set 46 (4, [47, 48, 49, 50, 0]))[46]? = some (4, [47, 48, 49, 50, 0]) := getS (gtl y1)
  generalize h.set 46 (4, [47, 48, 49, 50, 0]) = g at w1 F1 g18
  have hm2 : g[108]? = some (7, hM le pl be to va br un ke la ma) := by rw [F1.g _ (by omega)]; exact hm
  have F2 : Fr (fun j => j = 108) g (g.set 108 (7, hM le pl be to va br un ke la 0)) := fr_set rfl
  refine ⟨ma, g, g.set 108 (7, hM le pl be to va br un ke la 0), ?_, by rw [F1.g _ (by omega)]; exact hs, ?_, ?_⟩
  · rw [k_Ss_forget]
    simp only [iS.r8, r1, w1, Option.bind_some]
  · rw [k_Mo_forget, show rdf 7 g 108 23 = some ma from hmf hm2 rfl, Option.bind_some, hmw hm2 (by simp [hM]) 0]
    rfl
  · have G : ∀ j, j ≠ 46 → j ≠ 108 → (g.set 108 (7, hM le pl be to va br un ke la 0))[j]? = h[j]? := fun j a b => by rw [F2.g _ b, F1.g _ a]
    exact inv_si hl hs ho iS iN iT iP iK iX iF iW iB ((F1.wd (fun j z => by omega)).tr (F2.wd (fun j z => by omega))) ⟨pl, be, to, va, br, la, getS (gtl hm2)⟩ ⟨by omega, by omega, s1, s2, s3, s4, s5, by rw [F2.g _ (by omega)]; exact g18, by rw [G _ (by omega) (by omega)]; exact y2, by rw [G _ (by omega) (by omega)]; exact y3, by rw [G _ (by omega) (by omega)]; exact y4, by rw [G _ (by omega) (by omega)]; exact y5, by rw [G _ (by omega) (by omega)]; exact y6, y7⟩
theorem op_seen (g l t y : Int) : Op scr m_Ss_seen m_Mo_seen [(0, g), (0, l), (0, t), (0, y)] := by
  intro h I
  obtain ⟨hl, hs, ho, le, un, ke, ma, B, C, iS, ⟨pl, be, to, va, br, la, hm⟩, iN, iT, iP, iK, iX, iF, iW, ⟨m0, m1, s1, s2, s3, s4, s5, y1, y2, y3, y4, y5, y6, y7⟩, iB⟩ := id I
  have c1 : cal 58 m_Ss_isWithin [(0, g), (0, 0), (0, 20)] h = some (bI (decide (0 ≤ g ∧ g ≤ 20)), h) := c_within g 0 20
  have c2 : cal 58 m_Ss_isWithin [(0, l), (0, 0), (0, 20)] h = some (bI (decide (0 ≤ l ∧ l ≤ 20)), h) := c_within l 0 20
  have c3 : cal 58 m_Ss_isWithin [(0, t), (0, 0), (0, 1)] h = some (bI (decide (0 ≤ t ∧ t ≤ 1)), h) := c_within t 0 1
  have c4 : cal 58 m_Ss_isWithin [(0, y), (0, 0), (0, 1)] h = some (bI (decide (0 ≤ y ∧ y ≤ 1)), h) := c_within y 0 1
  have n1 : ∀ h : AH, cal 58 m_Mo_in [(2, g), (2, 0), (2, 20)] h = some (bI (decide (0 ≤ g ∧ g ≤ 20)), h) := fun h => m_in g 0 20
  have n2 : ∀ h : AH, cal 58 m_Mo_in [(2, l), (2, 0), (2, 20)] h = some (bI (decide (0 ≤ l ∧ l ≤ 20)), h) := fun h => m_in l 0 20
  have n3 : ∀ h : AH, cal 58 m_Mo_in [(2, t), (2, 0), (2, 1)] h = some (bI (decide (0 ≤ t ∧ t ≤ 1)), h) := fun h => m_in t 0 1
  have n4 : ∀ h : AH, cal 58 m_Mo_in [(2, y), (2, 0), (2, 1)] h = some (bI (decide (0 ≤ y ∧ y ≤ 1)), h) := fun h => m_in y 0 1
  by_cases hg : 0 ≤ g ∧ g ≤ 20
  rotate_left
  · rw [bI_f hg] at c1 n1
    refine ⟨-3, h, h, ?_, hs, ?_, I⟩
    · rw [k_Ss_seen]; simp only [c1, Option.bind_some]; rfl
    · rw [k_Mo_seen]; simp only [n1, Option.bind_some]; rfl
  rw [bI_t hg] at c1 n1
  by_cases hL : 0 ≤ l ∧ l ≤ 20
  rotate_left
  · rw [bI_f hL] at c2 n2
    refine ⟨-3, h, h, ?_, hs, ?_, I⟩
    · rw [k_Ss_seen]; simp only [c1, c2, Option.bind_some]; rfl
    · rw [k_Mo_seen]; simp only [n1, n2, Option.bind_some]; rfl
  rw [bI_t hL] at c2 n2
  by_cases ht : 0 ≤ t ∧ t ≤ 1
  rotate_left
  · rw [bI_f ht] at c3 n3
    refine ⟨-3, h, h, ?_, hs, ?_, I⟩
    · rw [k_Ss_seen]; simp only [c1, c2, c3, Option.bind_some]; rfl
    · rw [k_Mo_seen]; simp only [n1, n2, n3, Option.bind_some]; rfl
  rw [bI_t ht] at c3 n3
  by_cases hy : 0 ≤ y ∧ y ≤ 1
  rotate_left
  · rw [bI_f hy] at c4 n4
    refine ⟨-3, h, h, ?_, hs, ?_, I⟩
    · rw [k_Ss_seen]; simp only [c1, c2, c3, c4, Option.bind_some]; rfl
    · rw [k_Mo_seen]; simp only [n1, n2, n3, n4, Option.bind_some]; rfl
  rw [bI_t hy] at c4 n4
  have hred : ∀ X : AH → AR, cal 59 m_Ss_seen [(106, 2), (0, g), (0, l), (0, t), (0, y)] h = (cal 58 m_Si_add [(104, 46), (0, g), (0, l), (0, t), (0, y)] h).bind (fun q6 => if q6.1 = 0 then some ((-5), q6.2) else (rdr 6 q6.2 2 8).bind (fun y7 => (cal 58 m_Si_size [(104, y7)] q6.2).bind (fun q8 => some (q8.1, q8.2)))) := by
    intro _
    rw [k_Ss_seen]
    simp only [c1, c2, c3, c4, iS.r8, Option.bind_some]
    rcases (show t = 0 ∨ t = 1 by omega) with rfl | rfl <;> rcases (show y = 0 ∨ y = 1 by omega) with rfl | rfl <;> rfl
  have hred := hred (fun _ => none)
  by_cases h6 : ma < 6
  · obtain ⟨h1, a1, F1, a2, a3, a4, a5, a6⟩ := c_siAdd (d := 57) (g := g) (l := l) y1 y2 y3 y4 y5 m0 h6 y7.1 y7.2.1 y7.2.2.1 y7.2.2.2.1 (show t = 0 ∨ t = 1 by omega) (show y = 0 ∨ y = 1 by omega)
    have sS := iS.fr F1 (by omega)
    have r1 : cal 58 m_Si_size [(104, 46)] h1 = some (ma + 1, h1) := by
      rw [k_Si_size, show rdf 4 h1 46 4 = some (ma + 1) from rdf_n (n := 46) a2 4]; rfl
    have hm1 : h1[108]? = some (7, hM le pl be to va br un ke la ma) := by rw [F1.g _ (by omega)]; exact hm
    have z0 : h1[122]? = some (20, s5) := by rw [F1.g _ (by omega)]; exact y6
    have l5 := y7.2.2.2.2.1
    have St : ∀ (xs : List Int) (j v : Int), xs.length = 24 → 0 ≤ j → j < 24 → rdr 7 (h1.set 122 (20, xs)) 108 22 = some 122 ∧ rdf 7 (h1.set 122 (20, xs)) 108 23 = some ma ∧ wra 20 (h1.set 122 (20, xs)) 122 j v = some (h1.set 122 (20, xs.set j.toNat v)) := by
      intro xs j v lx j0 j1
      have hm' : (h1.set 122 (20, xs))[108]? = some (7, hM le pl be to va br un ke la ma) := by rw [getN (by omega)]; exact hm1
      refine ⟨hmr hm' rfl (by omega), hmf hm' rfl, ?_⟩
      refine (wra_i (n := 122) (getS (gtl z0)) j0 (by omega) v).trans ?_
      rw [List.set_set]
    have S0 := St s5 (4 * ma) g l5 (by omega) (by omega)
    rw [set_same z0] at S0
    have S1 := St (s5.set (4 * ma).toNat g) (4 * ma + 1) l (by simp [l5]) (by omega) (by omega)
    have S2 := St ((s5.set (4 * ma).toNat g).set (4 * ma + 1).toNat l) (4 * ma + 2) t (by simp [l5]) (by omega) (by omega)
    have S3 := St (((s5.set (4 * ma).toNat g).set (4 * ma + 1).toNat l).set (4 * ma + 2).toNat t) (4 * ma + 3) y (by simp [l5]) (by omega) (by omega)
    have S4 := St ((((s5.set (4 * ma).toNat g).set (4 * ma + 1).toNat l).set (4 * ma + 2).toNat t).set (4 * ma + 3).toNat y) 0 0 (by simp [l5]) (by omega) (by omega)
    have q5 := y7.add (m := ma.toNat) (by omega) hg hL (show t = 0 ∨ t = 1 by omega) (show y = 0 ∨ y = 1 by omega)
    have es : (((s5.set (4 * ma.toNat) g).set (4 * ma.toNat + 1) l).set (4 * ma.toNat + 2) t).set (4 * ma.toNat + 3) y = (((s5.set (4 * ma).toNat g).set (4 * ma + 1).toNat l).set (4 * ma + 2).toNat t).set (4 * ma + 3).toNat y := by
      rw [show (4 * ma).toNat = 4 * ma.toNat by omega, show (4 * ma + 1).toNat = 4 * ma.toNat + 1 by omega, show (4 * ma + 2).toNat = 4 * ma.toNat + 2 by omega, show (4 * ma + 3).toNat = 4 * ma.toNat + 3 by omega]
    rw [es] at q5
    generalize (((s5.set (4 * ma).toNat g).set (4 * ma + 1).toNat l).set (4 * ma + 2).toNat t).set (4 * ma + 3).toNat y = s9 at S3 S4 q5
    have hm4 : (h1.set 122 (20, s9))[108]? = some (7, hM le pl be to va br un ke la ma) := by rw [getN (by omega)]; exact hm1
    have w5 : wrf 7 (h1.set 122 (20, s9)) 108 23 (ma + 1) = some ((h1.set 122 (20, s9)).set 108 (7, hM le pl be to va br un ke la (ma + 1))) := hmw hm4 (by simp [hM]) _
    have hm5 : ((h1.set 122 (20, s9)).set 108 (7, hM le pl be to va br un ke la (ma + 1)))[108]? = some (7, hM le pl be to va br un ke la (ma + 1)) := getS (gtl hm4)
    have r5 : rdf 7 ((h1.set 122 (20, s9)).set 108 (7, hM le pl be to va br un ke la (ma + 1))) 108 23 = some (ma + 1) := hmf hm5 rfl
    have F3 : Fr (fun j => j = 108 ∨ j = 122) h1 ((h1.set 122 (20, s9)).set 108 (7, hM le pl be to va br un ke la (ma + 1))) := (fr_set (Or.inr rfl)).tr (fr_set (Or.inl rfl))
    have g122 : ((h1.set 122 (20, s9)).set 108 (7, hM le pl be to va br un ke la (ma + 1)))[122]? = some (20, s9) := by rw [getN (by omega)]; exact getS (gtl z0)
    refine ⟨ma + 1, h1, (h1.set 122 (20, s9)).set 108 (7, hM le pl be to va br un ke la (ma + 1)), ?_, by rw [F1.g _ (by omega)]; exact hs, ?_, ?_⟩
    · rw [hred]
      simp only [a1, sS.r8, r1, Option.bind_some]
      rfl
    · rw [k_Mo_seen, n1, Option.bind_some, if_neg (show ¬ (1 : Int) = 0 by decide)]
      simp only [n2, n3, n4, S0.1, S0.2.1, Option.bind_some]
      rw [if_neg (by decide), if_neg (by decide), if_neg (by decide), if_neg (by omega), mul_id (by omega) (by omega), S0.2.2]
      simp only [S1.1, S1.2.1, Option.bind_some]
      rw [mul_id (by omega) (by omega), add_id (by omega) (by omega), S1.2.2]
      simp only [S2.1, S2.2.1, Option.bind_some]
      rw [mul_id (by omega) (by omega), add_id (by omega) (by omega), S2.2.2]
      simp only [S3.1, S3.2.1, Option.bind_some]
      rw [mul_id (by omega) (by omega), add_id (by omega) (by omega), S3.2.2]
      simp only [S4.1, S4.2.1, Option.bind_some]
      rw [add_id (by omega) (by omega), w5]
      simp only [r5, Option.bind_some]
    · exact inv_si hl hs ho iS iN iT iP iK iX iF iW iB ((F1.wd (fun j z => by omega)).tr (F3.wd (fun j z => by omega))) ⟨pl, be, to, va, br, la, hm5⟩ ⟨by omega, by omega, _, _, _, _, s9, by rw [F3.g _ (by omega)]; exact a2, by rw [F3.g _ (by omega)]; exact a3, by rw [F3.g _ (by omega)]; exact a4, by rw [F3.g _ (by omega)]; exact a5, by rw [F3.g _ (by omega)]; exact a6, g122, q5⟩
  · refine ⟨-5, h, h, ?_, hs, ?_, I⟩
    · have a1 : cal 58 m_Si_add [(104, 46), (0, g), (0, l), (0, t), (0, y)] h = some (0, h) := by
        rw [k_Si_add, show rdf 4 h 46 4 = some ma from rdf_n (n := 46) y1 4, Option.bind_some, if_neg h6]
      rw [hred]
      simp only [a1, Option.bind_some]
      rfl
    · have rm : rdf 7 h 108 23 = some ma := hmf hm rfl
      rw [k_Mo_seen, n1, Option.bind_some, if_neg (show ¬ (1 : Int) = 0 by decide)]
      simp only [n2, n3, n4, rm, Option.bind_some]
      rw [if_neg (by decide), if_neg (by decide), if_neg (by decide), if_pos (by omega)]
end OPS
