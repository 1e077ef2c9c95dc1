/-! What holds of the machine's state at every method's entry; the classes' tables by their tags; the locals. -/
def lenS : List Nat := [5, 4, 4, 6, 4, 5, 5, 4, 4]
def bytS : List (List Int32) := am_str.map (fun s => s.map Int32.ofInt)
def KS (G : AG) (a0 a1 : Nat) (U : State) : Prop :=
  va_K (gD G) clA (tyA G) U ∧ va_T .int a0 (gS G).length (fun j => .int (Int32.ofInt ((gS G).getD j 0))) (gA G) U U.heap ∧ va_T .int a1 5 (fun j => .int (Int32.ofInt (ovr.getD j 0))) (gA G) U U.heap ∧ va_Z "SownSeeds$Kind" "OVER" "[I" (.ref a1) (gA G) U U.heap ∧ va_Z "java/lang/String" "COMPACT_STRINGS" "Z" (.int 1) (gA G) U U.heap ∧
  vk_S 9 lenS bytS (gK G) (gV G) (gA G) U U.heap ∧ (∀ i, i < 9 → vk_R RX6 (strI.getD i (0, "")).1 (strI.getD i (0, "")).2 (gK G i) U) ∧ (∀ w ∈ nestF, va_Nw w U) ∧ (∀ w ∈ nestM, va_Nw w U) ∧ va_AO RX0 U ∧ va_AO RX1 U ∧ G.2.2.1 ≤ U.heap.size ∧ (gS G).length < 2 ^ 31 ∧ (∀ x ∈ gS G, inI x) ∧ va_Zq "jdk/internal/util/Preconditions" "SIOOBE_FORMATTER" "Ljava/util/function/BiFunction;" (gA G) U U.heap
theorem KS.gen {G : AG} {a0 a1 : Nat} {u U : State} (h : KS G a0 a1 u) (hal : u.vm.Alike U.vm) (hr : ∀ own k tx a, vk_R own k tx a u → vk_R own k tx a U) (hF : ∀ w ∈ nestF, va_Nw w u → va_Nw w U) (hM : ∀ w ∈ nestM, va_Nw w u → va_Nw w U)
    (hsz : u.heap.size ≤ U.heap.size) (hk : ∀ q : Nat, q < u.heap.size → ¬ gA G q → U.heap[q]? = u.heap[q]?) : KS G a0 a1 U := by
  obtain ⟨h1, h2, h3, h4, h5, h6, h7, h8, h9, h10, h11, h12, h13, h14, h15⟩ := h
  exact ⟨h1.moved hal, (h2.moved hal).kept hk, (h3.moved hal).kept hk, (h4.moved hal).kept hk, (h5.moved hal).kept hk, (h6.moved hal).kept hk, fun i hi => hr _ _ _ _ (h7 i hi), fun w hw => hF w hw (h8 w hw), fun w hw => hM w hw (h9 w hw), h10.moved hal, h11.moved hal, Nat.le_trans h12 hsz, h13, h14, (h15.moved hal).kept hk⟩
theorem nestF_form : ∀ w ∈ nestF, ∃ a i b n d h, w = Cond.fieldLinkNest a i b n d h := by
  intro w hw
  simp only [nestF, List.mem_cons, List.not_mem_nil, or_false] at hw
  rcases hw with rfl | rfl | rfl | rfl | rfl | rfl <;> exact ⟨_, _, _, _, _, _, rfl⟩
theorem nestM_form : ∀ w ∈ nestM, ∃ a i x h, w = Cond.methodLinkNest a i x h := by
  intro w hw
  simp only [nestM, List.mem_cons, List.not_mem_nil, or_false] at hw
  rcases hw with rfl | rfl | rfl | rfl | rfl <;> exact ⟨_, _, _, _, rfl⟩
theorem KS.warm {G : AG} {a0 a1 : Nat} {s U : State} (h : KS G a0 a1 s) (hW : s.WarmedH U.vm) (hsz : s.heap.size ≤ U.heap.size) (hk : ∀ q : Nat, q < s.heap.size → ¬ gA G q → U.heap[q]? = s.heap[q]?) : KS G a0 a1 U :=
  h.gen hW.alike (fun _ _ _ _ hq => hq.warm hW) (fun w hw hq => by obtain ⟨a, i, b, n, d, h', rfl⟩ := nestF_form w hw; exact va_Nw.warmF hW hq) (fun w hw hq => by obtain ⟨a, i, x, h', rfl⟩ := nestM_form w hw; exact va_Nw.warmM hW hq) hsz hk
theorem KS.same {G : AG} {a0 a1 : Nat} {u U : State} (h : KS G a0 a1 u) (hv : U.vm = u.vm) (hh : U.heap = u.heap) : KS G a0 a1 U :=
  h.gen (by rw [hv]; exact Vm.Alike.refl _) (fun _ _ _ _ hq => hq.same hv) (fun w hw hq => by obtain ⟨a, i, b, n, d, h', rfl⟩ := nestF_form w hw; exact va_Nw.same rfl hv.symm hq) (fun w hw hq => by obtain ⟨a, i, x, h', rfl⟩ := nestM_form w hw; exact va_Nw.same rfl hv.symm hq) (by rw [hh]; exact Nat.le_refl _) (fun q _ _ => by rw [hh])
theorem clA_at {t : Nat} (ht : t ≤ 7) : clA[t]? = some (cN t, cT t, cF t) := by
  rcases (show t = 0 ∨ t = 1 ∨ t = 2 ∨ t = 3 ∨ t = 4 ∨ t = 5 ∨ t = 6 ∨ t = 7 by omega) with rfl | rfl | rfl | rfl | rfl | rfl | rfl | rfl <;> rfl
theorem wsIn {t : Nat} (ht : t ≤ 7) : ∀ w ∈ u_ws (cN t) (cT t) (cF t), w ∈ WSg := by
  rcases (show t = 0 ∨ t = 1 ∨ t = 2 ∨ t = 3 ∨ t = 4 ∨ t = 5 ∨ t = 6 ∨ t = 7 by omega) with rfl | rfl | rfl | rfl | rfl | rfl | rfl | rfl
  · exact wsIn_0
  · exact wsIn_1
  · exact wsIn_2
  · exact wsIn_3
  · exact wsIn_4
  · exact wsIn_5
  · exact wsIn_6
  · exact wsIn_7
theorem instIn {t : Nat} (ht : t ≤ 7) : Cond.instantiable (cN t) (cF t) ∈ WSg ∧ Cond.initialized (cN t) ∈ WSg := by
  rcases (show t = 0 ∨ t = 1 ∨ t = 2 ∨ t = 3 ∨ t = 4 ∨ t = 5 ∨ t = 6 ∨ t = 7 by omega) with rfl | rfl | rfl | rfl | rfl | rfl | rfl | rfl
  · exact ⟨inst_0, ini_0⟩
  · exact ⟨inst_1, ini_1⟩
  · exact ⟨inst_2, ini_2⟩
  · exact ⟨inst_3, ini_3⟩
  · exact ⟨inst_4, ini_4⟩
  · exact ⟨inst_5, ini_5⟩
  · exact ⟨inst_6, ini_6⟩
  · exact ⟨inst_7, ini_7⟩
theorem tyOK {t : Nat} (ht : t ≤ 7) : ∀ k, k < cF t → parseFieldDescriptor (cT t k).2.2.1 = some (cTy t k) := by
  rcases (show t = 0 ∨ t = 1 ∨ t = 2 ∨ t = 3 ∨ t = 4 ∨ t = 5 ∨ t = 6 ∨ t = 7 by omega) with rfl | rfl | rfl | rfl | rfl | rfl | rfl | rfl
  · exact tyX0_ok
  · exact tyX1_ok
  · exact tyX2_ok
  · exact tyX3_ok
  · exact tyX5_ok
  · exact tyX6_ok
  · exact tyX7_ok
  · exact tyX8_ok
theorem nmOK {t : Nat} (ht : t ≤ 7) : ∀ a, a < cF t → ∀ b, b < cF t → a ≠ b → (cT t a).2.1 ≠ (cT t b).2.1 := by
  rcases (show t = 0 ∨ t = 1 ∨ t = 2 ∨ t = 3 ∨ t = 4 ∨ t = 5 ∨ t = 6 ∨ t = 7 by omega) with rfl | rfl | rfl | rfl | rfl | rfl | rfl | rfl
  · exact nmX0
  · exact nmX1
  · exact nmX2
  · exact nmX3
  · exact nmX5
  · exact nmX6
  · exact nmX7
  · exact nmX8
theorem dclOK {t : Nat} (ht : t ≤ 7) : ∀ k, k < cF t → (cT t k).1 = cN t := by
  rcases (show t = 0 ∨ t = 1 ∨ t = 2 ∨ t = 3 ∨ t = 4 ∨ t = 5 ∨ t = 6 ∨ t = 7 by omega) with rfl | rfl | rfl | rfl | rfl | rfl | rfl | rfl <;> decide +kernel
/-- a field's type and its tag -/
def ftOK (ty : FieldType) (g : Nat) : Bool := match ty with
  | .int => Nat.beq g 0
  | .boolean => Nat.beq g 0
  | .array _ => Nat.ble 100 g
  | .object _ => Nat.ble 100 g
  | _ => false
theorem ftA {t : Nat} (ht : t ≤ 7) : (am_ft t).length = cF t ∧ ∀ k, k < cF t → ftOK (cTy t k) ((am_ft t).getD k 1) = true := by
  rcases (show t = 0 ∨ t = 1 ∨ t = 2 ∨ t = 3 ∨ t = 4 ∨ t = 5 ∨ t = 6 ∨ t = 7 by omega) with rfl | rfl | rfl | rfl | rfl | rfl | rfl | rfl <;> exact ⟨rfl, by decide +kernel⟩
theorem nth_get {α : Type} (l : List α) (i : Nat) : nthL l i = l[i]? := by
  induction l generalizing i with
  | nil => cases i <;> rfl
  | cons a l ih => cases i with
    | zero => rfl
    | succ i => exact ih i
theorem setL_set {α : Type} (l : List α) (i : Nat) (v : α) : setL l i v = l.set i v := by
  induction l generalizing i with
  | nil => rfl
  | cons a l ih => cases i with
    | zero => rfl
    | succ i => exact congrArg (a :: ·) (ih i)
/-- the value at this place can be loaded -/
def vldB (ls : List AV) (j : Nat) (v : AV) : Bool := if v.1 = 2 then (match ls[j + 1]? with
  | some u => decide (u.1 = 8)
  | none => false) else decide (v.1 = 0) || decide (v.1 = 3) || decide (100 ≤ v.1)
def lvl (G : AG) (as : List Nat) (ls : List AV) : List (Nat × Value) := (List.range ls.length).filterMap (fun j => match ls[j]? with
  | some v => if vldB ls j v = true then some (j, cvv G as v) else none
  | none => none)
theorem mem_lvl {G : AG} {as : List Nat} {ls : List AV} {q : Nat × Value} : q ∈ lvl G as ls ↔ ∃ v, ls[q.1]? = some v ∧ vldB ls q.1 v = true ∧ q.2 = cvv G as v := by
  unfold lvl
  rw [List.mem_filterMap]
  constructor
  · rintro ⟨j, hj, e⟩
    cases hv : ls[j]? with
    | none => rw [hv] at e; cases e
    | some v =>
      rw [hv] at e
      by_cases hb : vldB ls j v = true
      · simp only [hb, if_true] at e
        cases e
        exact ⟨v, hv, hb, rfl⟩
      · simp only [hb] at e
        cases e
  · rintro ⟨v, h1, h2, h3⟩
    refine ⟨q.1, List.mem_range.mpr (List.getElem?_eq_some_iff.mp h1).1, ?_⟩
    rw [h1]
    simp only [h2, if_true, ← h3]
def LsR (G : AG) (as : List Nat) (tg : List Nat) (ls : List AV) (lsA : Array Slot) (nL : Nat) : Prop := ls.length = nL ∧ (∀ j v, ls[j]? = some v → vldB ls j v = true → okv tg v) ∧ lv_has lsA nL (lvl G as ls)
theorem LsR.at {G : AG} {as tg : List Nat} {ls : List AV} {lsA : Array Slot} {nL j : Nat} {v : AV} (h : LsR G as tg ls lsA nL) (hv : ls[j]? = some v) (hb : vldB ls j v = true) : okv tg v ∧ lsA[j]? = some (.val (cvv G as v)) := ⟨h.2.1 j v hv hb, h.2.2.2.2 (j, cvv G as v) (mem_lvl.mpr ⟨v, hv, hb, rfl⟩)⟩
theorem cvv_cat {G : AG} {as : List Nat} {v : AV} : (cvv G as v).category = if v.1 = 2 then 2 else 1 := by
  unfold cvv
  by_cases a : v.1 = 0
  · simp [a, Value.category]
  · by_cases b : v.1 = 2
    · simp [b, Value.category]
    · by_cases d : v.1 = 3
      · simp [d, Value.category]
      · simp [a, b, d, Value.category]
theorem LsR.store1 {G : AG} {as tg : List Nat} {ls : List AV} {lsA lsB : Array Slot} {nL i : Nat} {v : AV} (h : LsR G as tg ls lsA nL) (hi : i < nL) (ho : okv tg v) (h2 : v.1 ≠ 2)
    (hB : lv_has lsB nL ((i, cvv G as v) :: (lvl G as ls).filter (fun q => !(q.1 == i) && !(q.1 + 1 == i && q.2.category == 2)))) : LsR G as tg (ls.set i v) lsB nL := by
  obtain ⟨h1, h3, h4⟩ := h
  have hget : ∀ j, (ls.set i v)[j]? = if j = i then some v else ls[j]? := by
    intro j
    rw [List.getElem?_set]
    by_cases e : i = j
    · subst e; rw [if_pos rfl, if_pos rfl, if_pos (by omega)]
    · rw [if_neg e, if_neg (fun q => e q.symm)]
  have hval : ∀ j w, j ≠ i → (ls.set i v)[j]? = some w → vldB (ls.set i v) j w = true → ls[j]? = some w ∧ vldB ls j w = true ∧ ¬ (j + 1 = i ∧ w.1 = 2) := by
    intro j w hj hw hb
    rw [hget, if_neg hj] at hw
    unfold vldB at hb ⊢
    by_cases e : w.1 = 2
    · rw [if_pos e] at hb ⊢
      rw [hget] at hb
      by_cases e2 : j + 1 = i
      · rw [if_pos e2] at hb
        have h8 : v.1 = 8 := by simpa using hb
        rcases ho with a | a | a | a <;> omega
      · rw [if_neg e2] at hb
        exact ⟨hw, hb, fun q => e2 q.1⟩
    · rw [if_neg e] at hb ⊢
      exact ⟨hw, hb, fun q => e q.2⟩
  refine ⟨by rw [List.length_set]; exact h1, fun j w hw hb => ?_, hB.1, hB.2.1, fun q hq => ?_⟩
  · by_cases e : j = i
    · subst e
      rw [hget, if_pos rfl] at hw; cases hw; exact ho
    · obtain ⟨a, b, -⟩ := hval j w e hw hb
      exact h3 j w a b
  · obtain ⟨w, hw, hb, hc⟩ := mem_lvl.mp hq
    by_cases e : q.1 = i
    · rw [hget, if_pos e] at hw
      cases hw
      refine hB.2.2 q (List.mem_cons.mpr (Or.inl ?_))
      rw [← e, ← hc]
    · obtain ⟨a, b, d⟩ := hval q.1 w e hw hb
      refine hB.2.2 q (List.mem_cons.mpr (Or.inr (List.mem_filter.mpr ⟨mem_lvl.mpr ⟨w, a, b, hc⟩, ?_⟩)))
      rw [hc, cvv_cat]
      by_cases e3 : w.1 = 2
      · have : ¬ q.1 + 1 = i := fun z => d ⟨z, e3⟩
        simp [e, this]
      · simp [e, e3]
theorem LsR.store2 {G : AG} {as tg : List Nat} {ls : List AV} {lsA lsB : Array Slot} {nL i : Nat} {v : AV} (h : LsR G as tg ls lsA nL) (hi : i + 1 < nL) (ho : okv tg v) (h2 : v.1 = 2)
    (hB : lv_has lsB nL ((i, cvv G as v) :: (lvl G as ls).filter (fun q => !(q.1 == i) && (!(q.1 == i + 1) && !(q.1 + 1 == i && q.2.category == 2))))) : LsR G as tg ((ls.set i v).set (i + 1) (8, 0)) lsB nL := by
  obtain ⟨h1, h3, h4⟩ := h
  have hget : ∀ j, ((ls.set i v).set (i + 1) (8, 0))[j]? = if j = i + 1 then some (8, 0) else if j = i then some v else ls[j]? := by
    intro j
    by_cases e : j = i + 1
    · subst e; rw [if_pos rfl, List.getElem?_set, if_pos rfl, if_pos (by rw [List.length_set]; omega)]
    · rw [if_neg e, List.getElem?_set, if_neg (fun q => e q.symm), List.getElem?_set]
      by_cases e2 : j = i
      · subst e2; rw [if_pos rfl, if_pos rfl, if_pos (by omega)]
      · rw [if_neg (fun q => e2 q.symm), if_neg e2]
  have hval : ∀ j w, j ≠ i → ((ls.set i v).set (i + 1) (8, 0))[j]? = some w → vldB ((ls.set i v).set (i + 1) (8, 0)) j w = true → j ≠ i + 1 ∧ ls[j]? = some w ∧ vldB ls j w = true ∧ ¬ (j + 1 = i ∧ w.1 = 2) := by
    intro j w hj hw hb
    rw [hget] at hw
    by_cases e0 : j = i + 1
    · rw [if_pos e0] at hw
      cases hw
      unfold vldB at hb
      simp at hb
    · rw [if_neg e0, if_neg hj] at hw
      unfold vldB at hb ⊢
      by_cases e : w.1 = 2
      · rw [if_pos e] at hb ⊢
        rw [hget] at hb
        rw [if_neg (by omega)] at hb
        by_cases e2 : j + 1 = i
        · rw [if_pos e2] at hb
          have h8 : v.1 = 8 := by simpa using hb
          omega
        · rw [if_neg e2] at hb
          exact ⟨e0, hw, hb, fun q => e2 q.1⟩
      · rw [if_neg e] at hb ⊢
        exact ⟨e0, hw, hb, fun q => e q.2⟩
  refine ⟨by rw [List.length_set, List.length_set]; exact h1, fun j w hw hb => ?_, hB.1, hB.2.1, fun q hq => ?_⟩
  · by_cases e : j = i
    · subst e
      rw [hget, if_neg (by omega), if_pos rfl] at hw; cases hw; exact ho
    · obtain ⟨-, a, b, -⟩ := hval j w e hw hb
      exact h3 j w a b
  · obtain ⟨w, hw, hb, hc⟩ := mem_lvl.mp hq
    by_cases e : q.1 = i
    · rw [hget, if_neg (by omega), if_pos e] at hw
      cases hw
      refine hB.2.2 q (List.mem_cons.mpr (Or.inl ?_))
      rw [← e, ← hc]
    · obtain ⟨e0, a, b, d⟩ := hval q.1 w e hw hb
      refine hB.2.2 q (List.mem_cons.mpr (Or.inr (List.mem_filter.mpr ⟨mem_lvl.mpr ⟨w, a, b, hc⟩, ?_⟩)))
      rw [hc, cvv_cat]
      by_cases e3 : w.1 = 2
      · have : ¬ q.1 + 1 = i := fun z => d ⟨z, e3⟩
        simp [e, e0, this]
      · simp [e, e0, e3]
theorem LsR.ext {G : AG} {as : List Nat} {h : AH} {ls : List AV} {lsA : Array Slot} {nL : Nat} (e : List Nat) (hlen : as.length = h.length) (te : List Nat) (H : LsR G as (tgs h) ls lsA nL) : LsR G (as ++ e) (tgs h ++ te) ls lsA nL := by
  obtain ⟨h1, h2, h3⟩ := H
  refine ⟨h1, fun j v hv hb => okv_ext te (h2 j v hv hb), h3.1, h3.2.1, fun q hq => ?_⟩
  obtain ⟨v, a, b, d⟩ := mem_lvl.mp hq
  exact h3.2.2 q (mem_lvl.mpr ⟨v, a, b, by rw [d]; exact cvv_ext e hlen (h2 _ v a b)⟩)
