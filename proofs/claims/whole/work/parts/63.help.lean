/-! Small calls; rows copied. -/
theorem bI_t {P : Prop} [Decidable P] (h : P) : bI (decide P) = 1 := by rw [decide_eq_true h]; rfl
theorem bI_f {P : Prop} [Decidable P] (h : ¬ P) : bI (decide P) = 0 := by rw [decide_eq_false h]; rfl
theorem c_within {d : Nat} {h : AH} (x a b : Int) : cal (d + 1) m_Ss_isWithin [(0, x), (0, a), (0, b)] h = some (bI (decide (a ≤ x ∧ x ≤ b)), h) := by
  rw [k_Ss_isWithin]
  by_cases e : x < a
  · rw [if_pos e, bI_f (by omega)]
  · rw [if_neg e]
    by_cases g : b < x
    · rw [if_pos g, bI_f (by omega)]
    · rw [if_neg g, bI_t (by omega)]
theorem m_in {d : Nat} {h : AH} (x a b : Int) : cal (d + 1) m_Mo_in [(2, x), (2, a), (2, b)] h = some (bI (decide (a ≤ x ∧ x ≤ b)), h) := by
  have e1 : (a_lcmp x a < 0) = (x < a) := by
    rw [a_lcmp_def]
    apply propext
    split
    · constructor <;> intro <;> omega
    · split <;> constructor <;> intro <;> omega
  have e2 : (0 < a_lcmp x b) = (b < x) := by
    rw [a_lcmp_def]
    apply propext
    split
    · constructor <;> intro <;> omega
    · split <;> constructor <;> intro <;> omega
  rw [k_Mo_in]
  simp only [e1, e2]
  by_cases e : x < a
  · rw [if_pos e, bI_f (by omega)]
  · rw [if_neg e]
    by_cases g : b < x
    · rw [if_pos g, bI_f (by omega)]
    · rw [if_neg g, bI_t (by omega)]
section SS
variable {h : AH} {un : Int}
theorem SsI.r0 (H : SsI h un) : rdr 6 h 2 0 = some 3 := rdr_n (n := 2) H rfl (by omega)
theorem SsI.r1 (H : SsI h un) : rdr 6 h 2 1 = some 7 := rdr_n (n := 2) H rfl (by omega)
theorem SsI.r2 (H : SsI h un) : rdr 6 h 2 2 = some 11 := rdr_n (n := 2) H rfl (by omega)
theorem SsI.r3 (H : SsI h un) : rdr 6 h 2 3 = some 15 := rdr_n (n := 2) H rfl (by omega)
theorem SsI.r4 (H : SsI h un) : rdr 6 h 2 4 = some 16 := rdr_n (n := 2) H rfl (by omega)
theorem SsI.r5 (H : SsI h un) : rdr 6 h 2 5 = some 17 := rdr_n (n := 2) H rfl (by omega)
theorem SsI.r6 (H : SsI h un) : rdr 6 h 2 6 = some 18 := rdr_n (n := 2) H rfl (by omega)
theorem SsI.r7 (H : SsI h un) : rdr 6 h 2 7 = some 20 := rdr_n (n := 2) H rfl (by omega)
theorem SsI.r8 (H : SsI h un) : rdr 6 h 2 8 = some 46 := rdr_n (n := 2) H rfl (by omega)
theorem SsI.r9 (H : SsI h un) : rdr 6 h 2 9 = some 51 := rdr_n (n := 2) H rfl (by omega)
theorem SsI.ru (H : SsI h un) : rdf 6 h 2 10 = some un := rdf_n (n := 2) H 10
theorem SsI.wu (H : SsI h un) (v : Int) : wrf 6 h 2 10 v = some (h.set 2 (6, [3, 7, 11, 15, 16, 17, 18, 20, 46, 51, v])) := wrf_n (n := 2) H (by simp) v
theorem SsI.st (H : SsI h un) (v : Int) : SsI (h.set 2 (6, [3, 7, 11, 15, 16, 17, 18, 20, 46, 51, v])) v := getS (gtl H)
end SS
def cpN (xs : List Int) (oa ob : Nat) : Nat → Nat → List Int → List Int
  | 0, _, ys => ys
  | k + 1, c, ys => cpN xs oa ob k (c + 1) (ys.set (ob + c) (xs.getD (oa + c) 0))
section CPN
variable {xs : List Int} {oa ob : Nat}
theorem cpN_len : ∀ (k c : Nat) (ys : List Int), (cpN xs oa ob k c ys).length = ys.length := by
  intro k
  induction k with
  | zero => intro c ys; rfl
  | succ k ih => intro c ys; show (cpN xs oa ob k _ _).length = _; rw [ih, List.length_set]
theorem cpN_out : ∀ (k c : Nat) (ys : List Int) (j : Nat), (j < ob + c ∨ ob + c + k ≤ j) → (cpN xs oa ob k c ys)[j]? = ys[j]? := by
  intro k
  induction k with
  | zero => intro c ys j _; rfl
  | succ k ih =>
    intro c ys j hj
    show (cpN xs oa ob k _ _)[j]? = _
    rw [ih _ _ _ (by omega), List.getElem?_set_ne (by omega)]
theorem cpN_in : ∀ (k c : Nat) (ys : List Int) (j : Nat), c ≤ j → j < c + k → ob + c + k ≤ ys.length → (cpN xs oa ob k c ys)[ob + j]? = some (xs.getD (oa + j) 0) := by
  intro k
  induction k with
  | zero => intro c ys j h1 h2; omega
  | succ k ih =>
    intro c ys j h1 h2 h3
    show (cpN xs oa ob k _ _)[ob + j]? = _
    by_cases e : j = c
    · subst e
      rw [cpN_out _ _ _ _ (by omega), List.getElem?_set_self (by omega)]
    · exact ih _ _ _ (by omega) (by omega) (by rw [List.length_set]; omega)
theorem At.cp {r ys : List Int} (A : At xs oa r) (hr : r.length = 25) (hl : ob + 25 ≤ ys.length) : At (cpN xs oa ob 25 0 ys) ob r := by
  intro k hk
  rw [cpN_in 25 0 ys k (by omega) (by omega) (by omega), gdE, A k hk, List.getElem?_eq_getElem (by omega)]
  rfl
theorem At.ot {r ys : List Int} {o : Nat} (A : At ys o r) (hd : o + 25 ≤ ob ∨ ob + 25 ≤ o) : At (cpN xs oa ob 25 0 ys) o r := by
  intro k hk
  rw [cpN_out 25 0 ys _ (by omega)]
  exact A k hk
theorem At.wh {r ys : List Int} (A : At ys 0 r) (h1 : ys.length = 25) (h2 : r.length = 25) : ys = r := by
  apply List.ext_getElem?
  intro j
  by_cases e : j < 25
  · have := A j e
    rw [Nat.zero_add] at this
    exact this
  · rw [List.getElem?_eq_none (by omega), List.getElem?_eq_none (by omega)]
theorem At.sf {r : List Int} : At r 0 r := fun k _ => by rw [Nat.zero_add]
theorem cp_row {r ys : List Int} (A : At xs oa r) (hr : r.length = 25) (hy : ys.length = 25) : cpN xs oa 0 25 0 ys = r := (A.cp (ob := 0) hr (by omega)).wh (by rw [cpN_len]; exact hy) hr
end CPN
theorem MnH.of {h : AH} {C : Bo} {le pl be to va br un ke la ma : Int} (hm : h[108]? = some (7, hM le pl be to va br un ke la ma)) (e : h[109]? = some (20, row C)) : MnH h 108 C := ⟨⟨_, hm⟩, e⟩
theorem m_isHouse {h : AH} {C : Bo} {d : Nat} (H : MnH h 108 C) (O : BoOK C) (i : Int) : cal (d + 2) m_Mo_isHouse [(107, 108), (0, i)] h = some (bI (decide (0 ≤ i ∧ i < 2 * C.w)), h) := by
  have w2 := O.w2
  have w5 := O.w5
  have e : (0 ≤ i ∧ i ≤ 2 * C.w - 1) = (0 ≤ i ∧ i < 2 * C.w) := by apply propext; omega
  have r1 : rdr 7 h 108 0 = some 109 := H.now
  have r2 : rda 20 h 109 0 = some C.w := H.rw0
  rw [k_Mo_isHouse, r1, Option.bind_some, r2, Option.bind_some, mul_id (by omega) (by omega), sub_id (by omega) (by omega), m_in, Option.bind_some]
  simp only [e]
  rw [if_pos (bI01 _)]
theorem GB.ok {B : Bo} (G : GB B) : BoOK B := G.1
theorem GB.bb {B : Bo} (G : GB B) {s : Int} : B.bn s + 500 ≤ 1500000 := by
  have := G.1.mm; have := G.2.1; have := G.2.2
  unfold Bo.bn; split <;> omega
theorem GB.sw {B : Bo} {i : Int} (G : GB B) (hm : B.m < 1100) (h0 : 0 ≤ i) (h1 : i < 2 * B.w) : GB (sow B i) := by
  have hb := G.bb (s := B.t)
  have hb0 := G.2.1
  have hb1 := G.2.2
  obtain ⟨OC, SC, c1, c2⟩ := sowC_ok G.1 (by omega) h0 h1
  refine ⟨sow_ok G.1 hm (by omega) h0 h1, ?_, ?_⟩
  · show (sowC B i).b0 ≤ 99 + 495 * (B.m + 1)
    by_cases t : B.t = 0
    · have : (sowC B i).bn B.t = (sowC B i).b0 := by unfold Bo.bn; rw [if_pos t]
      have : B.bn B.t = B.b0 := by unfold Bo.bn; rw [if_pos t]
      omega
    · rw [SC.2.2.2.2.2 t]; omega
  · show (sowC B i).b1 ≤ 99 + 495 * (B.m + 1)
    by_cases t : B.t = 0
    · rw [SC.2.2.2.2.1 t]; omega
    · have : (sowC B i).bn B.t = (sowC B i).b1 := by unfold Bo.bn; rw [if_neg t]
      have : B.bn B.t = B.b1 := by unfold Bo.bn; rw [if_neg t]
      omega
theorem Pr.sw {B C : Bo} {i : Int} (H : Pr B C) (hm : B.m < 999) (h0 : 0 ≤ i) (h1 : i < 2 * B.w) : Pr (sow B i) (sow C i) := by
  obtain ⟨g1, g2, g3, E⟩ := H
  have hb := g1.bb (s := B.t)
  refine ⟨g1.sw (by omega) h0 h1, g2.sw (by rw [E.2.2.2.2.1]; omega) h0 (by rw [E.1]; exact h1), ?_, (E.sow' g1.1 g2.1 (by omega) h0 h1).1⟩
  show B.m + 1 ≤ 999
  omega
