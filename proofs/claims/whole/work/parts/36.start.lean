/-! The law's entry: what the Statement gives, in the words of the abstract machine. -/
def tmS (i : Nat) : Term := .string RX6 (strI.getD i (0, "")).1
def tmO : Term := .static "SownSeeds$Kind" "OVER" "[I"
abbrev flG : List Cond := flatC (Jvm.Cond.and given_1 narrow_1)
theorem fl_ex : ∀ i, i < 9 → Cond.exactly (tmS i) "java/lang/String" ∈ flG := by decide +kernel
theorem fl_co : ∀ i, i < 9 → Cond.eq (.field (tmS i) "java/lang/String" "coder" "B") (.int 0) ∈ flG := by decide +kernel
theorem fl_ar : ∀ i, i < 9 → Cond.arrayOf (.field (tmS i) "java/lang/String" "value" "[B") .byte ∈ flG := by decide +kernel
theorem fl_le : ∀ i, i < 9 → Cond.eq (.length (.field (tmS i) "java/lang/String" "value" "[B")) (.int (Int32.ofNat (lenS.getD i 0))) ∈ flG := by decide +kernel
theorem fl_el : ∀ i, i < 9 → ∀ j, j < lenS.getD i 0 → Cond.eq (.elem (.field (tmS i) "java/lang/String" "value" "[B") (.int (Int32.ofNat j))) (.int ((bytS.getD i []).getD j 0)) ∈ flG := by decide +kernel
theorem fl_ne : ∀ i, i < 9 → ∀ j, j < 9 → i ≠ j → Cond.not (Cond.eq (tmS i) (tmS j)) ∈ flG ∨ Cond.not (Cond.eq (tmS j) (tmS i)) ∈ flG := by decide +kernel
theorem fl_oa : Cond.arrayOf tmO .int ∈ flG := by decide +kernel
theorem fl_ol : Cond.eq (.length tmO) (.int (Int32.ofNat 5)) ∈ flG := by decide +kernel
theorem fl_oe : ∀ j, j < 5 → Cond.eq (.elem tmO (.int (Int32.ofNat j))) (.int (Int32.ofInt (ovr.getD j 0))) ∈ flG := by decide +kernel
theorem fl_cs : Cond.eq (.static "java/lang/String" "COMPACT_STRINGS" "Z") (.int 1) ∈ flG := by decide +kernel
theorem fl_si : Cond.isRef (.static "jdk/internal/util/Preconditions" "SIOOBE_FORMATTER" "Ljava/util/function/BiFunction;") ∈ flG := by decide +kernel
theorem tb_st : ∀ i, i < 9 → Cond.stringRef RX6 (strI.getD i (0, "")).1 (strI.getD i (0, "")).2 ∈ lw_tbl := by decide +kernel
theorem tb_nf : ∀ w ∈ nestF, w ∈ lw_tbl := by decide +kernel
theorem tb_nm : ∀ w ∈ nestM, w ∈ lw_tbl := by decide +kernel
theorem tb_ao : Cond.arrayOver (.object RX0) ∈ lw_tbl ∧ Cond.arrayOver (.object RX1) ∈ lw_tbl := by decide +kernel
theorem tb_ls : Cond.laysStatic "SownSeeds$Kind" "OVER" "[I" ∈ lw_tbl ∧ Cond.laysStatic "java/lang/String" "COMPACT_STRINGS" "Z" ∈ lw_tbl ∧ Cond.laysStatic "jdk/internal/util/Preconditions" "SIOOBE_FORMATTER" "Ljava/util/function/BiFunction;" ∈ lw_tbl := by decide +kernel
theorem tb_in : Cond.initialized "SownSeeds$Kind" ∈ lw_tbl ∧ Cond.initialized "java/lang/String" ∈ lw_tbl ∧ Cond.initialized "jdk/internal/util/Preconditions" ∈ lw_tbl := by decide +kernel
theorem arrAt {args : Array Value} {s : State} {ty : FieldType} (h : (Cond.arrayClass ty).before args s = true) : ∃ cA : ClassId, ArrOfT s cA ty ∧ s.vm.findClass ("[" ++ ty.toString) = some cA := by
  obtain ⟨c, k, comp, h1, h2, h3⟩ := Cond.arrayClass_spec (args := args) (first := s) (o := none) (idx := []) h
  exact ⟨c, fun n z => ⟨fun k h => (by cases h), k, h2, comp, h3⟩, h1⟩
theorem ovAt {args : Array Value} {s : State} {C : String} (h : (Cond.arrayOver (.object C)).before args s = true) : ∃ cA : ClassId, ArrOfT s cA (.object C) ∧ va_RA s cA (.object C) := by
  obtain ⟨comp, c, k, h1, h2, h3, h4, h5⟩ := Cond.arrayOver_spec (args := args) (first := s) (o := none) (idx := []) h
  exact ⟨c, fun n z => ⟨fun k h => (by cases h), k, h3, comp, h4⟩, k, comp, h3, h4, h1, h5⟩
set_option maxRecDepth 100000 in
theorem ks_start {s : State} {b L : Nat} {xs : Nat → Int32} (hts : ∀ w ∈ lw_tbl, w.before #[Value.ref b] s = true) (hX : va_X b L xs s s.heap) (hbl : b < s.heap.size) (hgv : (Jvm.Cond.and given_1 narrow_1).before #[Value.ref b] s = true) (hL : L ≤ 2560) :
    ∃ (G : AG) (ov : Nat), gS G = (List.range L).map (fun j => (xs j).toInt) ∧ G.2.2.1 = s.heap.size ∧ KS G b ov s := by
  have hs := flat_of_before _ hgv
  have hw : ∀ w ∈ WSg, w.before #[Value.ref b] s = true := fun w h => hts w (List.mem_filter.mp h).1
  have hA : ∀ a : Nat, a < s.heap.size → ¬ (fun q : Nat => s.heap.size ≤ q) a := fun a h => Nat.not_le.mpr h
  have hcls : ∀ t : Nat, ∃ q : ClassId × (Nat → Nat), t ≤ 7 → u_Kn s (cN t) (cT t) (cF t) q.1 q.2 := by
    intro t
    by_cases ht : t ≤ 7
    · obtain ⟨c, i, hk⟩ := u_known (C := cN t) (T := cT t) (N := cF t) (n := cF t) hw (wsIn ht) (hw _ (instIn ht).1)
      exact ⟨(c, i), fun _ => hk⟩
    · exact ⟨(0, fun _ => 0), fun z => absurd z ht⟩
  obtain ⟨cf, hcf⟩ := Classical.axiomOfChoice hcls
  obtain ⟨cI, aI, fI⟩ := arrAt (hw _ wg_arI)
  obtain ⟨cZ, aZ, fZ⟩ := arrAt (hw _ wg_arZ)
  obtain ⟨cC, aC, fC⟩ := arrAt (hw _ wg_arC)
  obtain ⟨cL, aL, fL⟩ := arrAt (hw _ wg_arL)
  obtain ⟨cB, aB, rB⟩ := ovAt (hts _ tb_ao.1)
  obtain ⟨cX, aX, rX⟩ := ovAt (hts _ tb_ao.2)
  obtain ⟨ov, hov, hovT⟩ := va_Tof (A := fun q : Nat => s.heap.size ≤ q) (N := 5) (f := fun j => .int (Int32.ofInt (ovr.getD j 0))) (by decide) (hs _ fl_oa) (va_eqt (hs _ fl_ol)) (fun j hj => va_eqt (hs _ (fl_oe j hj))) hA
  obtain ⟨adK, adV, hS, hev⟩ := vk_Sof (A := fun q : Nat => s.heap.size ≤ q) (N := 9) (tm := tmS) (len := lenS) (byt := bytS) len_lt (fun i hi => hs _ (fl_ex i hi)) (fun i hi => hs _ (fl_co i hi)) (fun i hi => hs _ (fl_ar i hi)) (fun i hi => hs _ (fl_le i hi)) (fun i hi j hj => hs _ (fl_el i hi j hj)) (fun i j hi hj hij => (fl_ne i hi j hj hij).elim (fun z => Or.inl (hs _ z)) (fun z => Or.inr (hs _ z))) hA
  refine ⟨((fun t => (cf t).1, fun t => (cf t).2), (fun k => if k = 20 then cI else if k = 21 then cZ else if k = 22 then cC else if k = 23 then cL else if k = 24 then cB else cX), s.heap.size, (List.range L).map (fun j => (xs j).toInt), adK, adV), ov, rfl, rfl, ?_⟩
  refine ⟨⟨?_, ?_⟩, ?_, hovT, va_Zof (hts _ tb_ls.1) (hts _ tb_in.1) hov hA, va_Zof (hts _ tb_ls.2.1) (hts _ tb_in.2.1) (va_eqi (hs _ fl_cs)) hA, hS, fun i hi => vk_R.of (hts _ (tb_st i hi)) (hev i hi), fun w hw' => ?_, fun w hw' => ?_, va_AO.of (hts _ tb_ao.1), va_AO.of (hts _ tb_ao.2), Nat.le_refl _, ?_, ?_, va_Zqof (hts _ tb_ls.2.2) (hts _ tb_in.2.2) (hs _ fl_si) hA⟩
  · intro k q hq
    have hk : k ≤ 7 := by
      have := (List.getElem?_eq_some_iff.mp hq).1
      simp [clA] at this
      omega
    rw [clA_at hk] at hq
    cases hq
    exact hcf k hk
  · intro k q hq
    have hk : k < 6 := by
      have := (List.getElem?_eq_some_iff.mp hq).1
      simpa [tyA] using this
    rcases (show k = 0 ∨ k = 1 ∨ k = 2 ∨ k = 3 ∨ k = 4 ∨ k = 5 by omega) with rfl | rfl | rfl | rfl | rfl | rfl
    · cases hq; exact ⟨aI, fI⟩
    · cases hq; exact ⟨aZ, fZ⟩
    · cases hq; exact ⟨aC, fC⟩
    · cases hq; exact ⟨aL, fL⟩
    · cases hq; exact ⟨aB, rB⟩
    · cases hq; exact ⟨aX, rX⟩
  · obtain ⟨scr, h1, h2, h3, h4, h5⟩ := hX
    have hl : ((List.range L).map (fun j => (xs j).toInt)).length = L := by simp
    show va_T .int b ((List.range L).map (fun j => (xs j).toInt)).length _ _ s s.heap
    rw [hl]
    refine ⟨scr, h1, h2, h3, by omega, by rw [h4], fun j hj => ?_, hA b hbl⟩
    rw [h5 j hj]
    show some (Value.int (xs j)) = some (Value.int (Int32.ofInt (((List.range L).map (fun j => (xs j).toInt)).getD j 0)))
    rw [gdE, List.getElem?_map, List.getElem?_range hj]
    simp
  · obtain ⟨a, i, b', n, d, h', rfl⟩ := nestF_form w hw'; exact va_Nw.of rfl (hts _ (tb_nf _ hw'))
  · obtain ⟨a, i, x, h', rfl⟩ := nestM_form w hw'; exact va_Nw.of rfl (hts _ (tb_nm _ hw'))
  · show ((List.range L).map (fun j => (xs j).toInt)).length < 2 ^ 31
    simp; omega
  · intro x hx
    obtain ⟨j, -, rfl⟩ := List.mem_map.mp hx
    exact inI_of _
theorem rel_start {G : AG} {s : State} {b ov : Nat} : RelP G [b, ov] [(26, gS G), (26, ovr)] s.heap := by
  refine ⟨rfl, Nat.le_refl _, rfl, rfl, fun k c hk hc => ?_, fun k q h => by simp [wd] at h, ⟨fun i j p q h => by simp [wd] at h, fun k q h => by simp [wd] at h⟩⟩
  have := (List.getElem?_eq_some_iff.mp hc).1
  simp at this
  omega
