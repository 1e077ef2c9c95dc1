/-! Letters written and erased. -/
theorem i2c_all : ∀ n : Fin 256, ((Int32.ofInt (n.val : Int)).toUInt32 % 65536).toInt32.toInt = (n.val : Int) := by decide +kernel
theorem i2c_id {x : Int} (h0 : 0 ≤ x) (h1 : x ≤ 255) : a_i2c x = x := by
  rw [a_i2c_def]
  have := i2c_all ⟨x.toNat, by omega⟩
  simp only [Int.toNat_of_nonneg h0] at this
  exact this
theorem inv_te {scr : List Int} {h h2 : AH} {le' un ke ma : Int} {B C : Bo} (hl : h.length = 130) (hs : h[0]? = some (26, scr)) (ho : h[1]? = some (26, ovr)) (iS : SsI h un) (iN : NoI h B C) (iT : ToI h) (iP : PaI h un) (iK : KeI h ke) (iF : FoI h) (iW : WoI h) (iI : SiI h ma) (iB : BxI h) (T : Fr (fun j => j = 18 ∨ j = 19 ∨ j = 108 ∨ j = 111) h h2) (m : MhI h2 le' un ke ma) (x : TeI h2 le') : Inv scr h2 :=
  ⟨T.len.trans hl, by rw [T.g 0 (by omega)]; exact hs, by rw [T.g 1 (by omega)]; exact ho, le', un, ke, ma, B, C, iS.fr T (by omega), m, iN.fr T (fun j a b => by omega) (by omega), iT.fr T (fun j a b => by omega) (by omega), iP.fr T (by omega) (by omega) (fun j a b => by omega), iK.fr T (by omega) (by omega) (by omega) (fun j a b => by omega), x, iF.fr T (fun j a b => by omega), iW.fr T (by omega) (by omega) (fun j a b => by omega) (by omega) (by omega), iI.fr T (fun j a b => by omega) (by omega), iB.fr T (fun j a b => by omega) (fun j a b => by omega)⟩
section OPS
variable {scr : List Int}
theorem op_erase : Op scr m_Ss_erase m_Mo_erase [] := by
  intro h I
  obtain ⟨hl, hs, ho, le, un, ke, ma, B, C, iS, ⟨pl, be, to, va, br, la, hm⟩, iN, iT, iP, iK, ⟨l0, l1, L, x1, x2, x3, x4, cl, st, en, x5⟩, iF, iW, iI, iB⟩ := id I
  have r1 : cal 58 m_Te_length [(105, 18)] h = some (le, h) := by
    rw [k_Te_length, show rdf 5 h 18 1 = some le from rdf_n (n := 18) x5 1]; rfl
  have w1 : cal 58 m_Te_clear [(105, 18)] h = some (0, h.set 18 (5, [19, 0, cl, st, en])) := by
    rw [k_Te_clear, show wrf 5 h 18 1 0 = some (h.set 18 (5, [19, 0, cl, st, en])) from wrf_n (n := 18) x5 (by simp) 0]; rfl
  have F1 : Fr (fun j => j = 18) h (h.set 18 (5, [19, 0, cl, st, en])) := fr_set rfl
  have g18 : (h.set 18 (5, [19, 0, cl, st, en]))[18]? = some (5, [19, 0, cl, st, en]) := getS (gtl x5)
  generalize h.set 18 (5, [19, 0, cl, st, en]) = g at w1 F1 g18
  have hm2 : g[108]? = some (7, hM le pl be to va br un ke la ma) := by rw [F1.g _ (by omega)]; exact hm
  have F2 : Fr (fun j => j = 108) g (g.set 108 (7, hM 0 pl be to va br un ke la ma)) := fr_set rfl
  refine ⟨le, g, g.set 108 (7, hM 0 pl be to va br un ke la ma), ?_, by rw [F1.g _ (by omega)]; exact hs, ?_, ?_⟩
  · rw [k_Ss_erase]
    simp only [iS.r6, r1, w1, Option.bind_some]
  · rw [k_Mo_erase, show rdf 7 g 108 3 = some le from hmf hm2 rfl, Option.bind_some, hmw hm2 (by simp [hM]) 0]
    rfl
  · refine inv_te hl hs ho iS iN iT iP iK iF iW iI iB ((F1.wd (fun j z => by omega)).tr (F2.wd (fun j z => by omega))) ⟨pl, be, to, va, br, la, getS (gtl hm2)⟩ ⟨by omega, by omega, L, by rw [F2.g _ (by omega), F1.g _ (by omega)]; exact x1, by rw [F2.g _ (by omega), F1.g _ (by omega)]; exact x2, x3, x4, cl, st, en, by rw [F2.g _ (by omega)]; exact g18⟩
theorem op_write (a : Int) : Op scr m_Ss_write m_Mo_write [(0, a)] := by
  intro h I
  obtain ⟨hl, hs, ho, le, un, ke, ma, B, C, iS, ⟨pl, be, to, va, br, la, hm⟩, iN, iT, iP, iK, ⟨l0, l1, L, x1, x2, x3, x4, cl, st, en, x5⟩, iF, iW, iI, iB⟩ := id I
  have c1 : cal 58 m_Ss_isWithin [(0, a), (0, 0), (0, 255)] h = some (bI (decide (0 ≤ a ∧ a ≤ 255)), h) := c_within a 0 255
  have m1 : ∀ g : AH, cal 58 m_Mo_in [(2, a), (2, 0), (2, 255)] g = some (bI (decide (0 ≤ a ∧ a ≤ 255)), g) := fun g => m_in a 0 255
  have rl : rdf 5 h 18 1 = some le := rdf_n (n := 18) x5 1
  have rL : rdr 5 h 18 0 = some 19 := rdr_n (n := 18) x5 rfl (by omega)
  by_cases ha : 0 ≤ a ∧ a ≤ 255
  · rw [bI_t ha] at c1 m1
    by_cases h200 : le < 200
    · have w1 : wrac 22 h 19 le a = some (h.set 19 (22, L.set le.toNat a)) := by
        unfold wrac
        rw [if_pos (by omega)]
        exact wra_i (n := 19) x1 l0 (by omega) a
      have F1 : Fr (fun j => j = 19) h (h.set 19 (22, L.set le.toNat a)) := fr_set rfl
      have g19 : (h.set 19 (22, L.set le.toNat a))[19]? = some (22, L.set le.toNat a) := getS (gtl x1)
      generalize h.set 19 (22, L.set le.toNat a) = g at w1 F1 g19
      have x5' : g[18]? = some (5, [19, le, cl, st, en]) := by rw [F1.g _ (by omega)]; exact x5
      have rl2 : rdf 5 g 18 1 = some le := rdf_n (n := 18) x5' 1
      have w2 : wrf 5 g 18 1 (le + 1) = some (g.set 18 (5, [19, le + 1, cl, st, en])) := wrf_n (n := 18) x5' (by simp) _
      have F2 : Fr (fun j => j = 18 ∨ j = 19) h (g.set 18 (5, [19, le + 1, cl, st, en])) := (F1.wd (fun j z => Or.inr z)).tr (fr_set (Or.inl rfl))
      have g18 : (g.set 18 (5, [19, le + 1, cl, st, en]))[18]? = some (5, [19, le + 1, cl, st, en]) := getS (gtl x5')
      have g19' : (g.set 18 (5, [19, le + 1, cl, st, en]))[19]? = some (22, L.set le.toNat a) := by rw [getN (by omega)]; exact g19
      have cadd : cal 58 m_Te_add [(105, 18), (0, a)] h = some (1, g.set 18 (5, [19, le + 1, cl, st, en])) := by
        rw [k_Te_add, rl, Option.bind_some, if_pos h200, rL, Option.bind_some, Option.bind_some, i2c_id ha.1 ha.2, w1, Option.bind_some, rl2, Option.bind_some, add_id (by omega) (by omega), w2]
        rfl
      generalize g.set 18 (5, [19, le + 1, cl, st, en]) = g3 at cadd F2 g18 g19'
      have s3 := iS.fr F2 (by omega)
      have cle : cal 58 m_Te_length [(105, 18)] g3 = some (le + 1, g3) := by
        rw [k_Te_length, show rdf 5 g3 18 1 = some (le + 1) from rdf_n (n := 18) g18 1]; rfl
      have hm3 : g3[108]? = some (7, hM le pl be to va br un ke la ma) := by rw [F2.g _ (by omega)]; exact hm
      have x23 : g3[111]? = some (20, L) := by rw [F2.g _ (by omega)]; exact x2
      have w4 : wra 20 g3 111 le a = some (g3.set 111 (20, L.set le.toNat a)) := wra_i (n := 111) x23 l0 (by omega) a
      have hm4 : (g3.set 111 (20, L.set le.toNat a))[108]? = some (7, hM le pl be to va br un ke la ma) := by rw [getN (by omega)]; exact hm3
      have w5 : wrf 7 (g3.set 111 (20, L.set le.toNat a)) 108 3 (le + 1) = some ((g3.set 111 (20, L.set le.toNat a)).set 108 (7, hM (le + 1) pl be to va br un ke la ma)) := hmw hm4 (by simp [hM]) _
      have hm5 : ((g3.set 111 (20, L.set le.toNat a)).set 108 (7, hM (le + 1) pl be to va br un ke la ma))[108]? = some (7, hM (le + 1) pl be to va br un ke la ma) := getS (gtl hm4)
      have g111 : ((g3.set 111 (20, L.set le.toNat a)).set 108 (7, hM (le + 1) pl be to va br un ke la ma))[111]? = some (20, L.set le.toNat a) := by rw [getN (by omega)]; exact getS (gtl x23)
      have F3 : Fr (fun j => j = 108 ∨ j = 111) g3 ((g3.set 111 (20, L.set le.toNat a)).set 108 (7, hM (le + 1) pl be to va br un ke la ma)) := (fr_set (Or.inr rfl)).tr (fr_set (Or.inl rfl))
      have r4 : rdf 7 (g3.set 111 (20, L.set le.toNat a)) 108 3 = some le := hmf hm4 rfl
      refine ⟨le + 1, g3, (g3.set 111 (20, L.set le.toNat a)).set 108 (7, hM (le + 1) pl be to va br un ke la ma), ?_, by rw [F2.g _ (by omega)]; exact hs, ?_, ?_⟩
      · rw [k_Ss_write]
        simp only [c1, iS.r6, cadd, s3.r6, cle, Option.bind_some]
        rfl
      · have r3 : rdf 7 g3 108 3 = some le := hmf hm3 rfl
        have r2 : rdr 7 g3 108 2 = some 111 := hmr hm3 rfl (by omega)
        have r5 : rdf 7 ((g3.set 111 (20, L.set le.toNat a)).set 108 (7, hM (le + 1) pl be to va br un ke la ma)) 108 3 = some (le + 1) := hmf hm5 rfl
        rw [k_Mo_write, m1, Option.bind_some, if_neg (show ¬ (1 : Int) = 0 by decide)]
        simp only [r3, r2, w4, r4, Option.bind_some]
        rw [if_neg (by omega), add_id (by omega) (by omega), w5]
        simp only [r5, Option.bind_some]
      · refine inv_te hl hs ho iS iN iT iP iK iF iW iI iB ((F2.wd (fun j z => by omega)).tr (F3.wd (fun j z => by omega))) ⟨pl, be, to, va, br, la, hm5⟩ ⟨by omega, by omega, L.set le.toNat a, by rw [F3.g _ (by omega)]; exact g19', g111, by rw [List.length_set]; exact x3, fun j hj => ?_, cl, st, en, by rw [F3.g _ (by omega)]; exact g18⟩
        rw [gdE, List.getElem?_set]
        by_cases e : le.toNat = j
        · rw [if_pos e, if_pos (by omega)]; exact ha
        · rw [if_neg e, ← gdE]; exact x4 j hj
    · refine ⟨-5, h, h, ?_, hs, ?_, I⟩
      · have cadd : cal 58 m_Te_add [(105, 18), (0, a)] h = some (0, h) := by
          rw [k_Te_add, rl, Option.bind_some, if_neg h200]
        rw [k_Ss_write]
        simp only [c1, iS.r6, cadd, Option.bind_some]
        rfl
      · rw [k_Mo_write]
        simp only [m1, show rdf 7 h 108 3 = some le from hmf hm rfl, Option.bind_some]
        rw [if_neg (by decide), if_pos (by omega)]
  · rw [bI_f ha] at c1 m1
    refine ⟨-3, h, h, ?_, hs, ?_, I⟩
    · rw [k_Ss_write]
      simp only [c1, Option.bind_some]
      rfl
    · rw [k_Mo_write]
      simp only [m1, Option.bind_some]
      rfl
end OPS
