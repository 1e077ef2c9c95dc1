/-! The past: remembered, noted. -/
def PaC (h : AH) (un : Int) (ps : Nat → Nat) (P : Nat → Bo) : Prop := h[15]? = some (24, (List.range 8).map (fun i => (ps i : Int))) ∧ (∀ i, i < 8 → 68 ≤ ps i ∧ ps i < 100 ∧ ps i % 4 = 0) ∧ (∀ i j, i < 8 → j < 8 → ps i = ps j → i = j) ∧ (∀ k, k < 8 → ∃ D : Bo, BdH h (68 + 4 * k) D ∧ BoOK D) ∧ (∀ i : Nat, (i : Int) < un → BdH h (ps i) (P i))
def PaM (h : AH) (un : Int) (P C : Nat → Bo) : Prop := ∃ R : List Int, h[113]? = some (20, R) ∧ R.length = 200 ∧ ∀ i : Nat, (i : Int) < un → Pr (P i) (C i) ∧ At R (25 * i) (row (C i))
section PA
variable {h : AH} {un : Int} {ps : Nat → Nat} {P C : Nat → Bo} {B D : Bo} {d : Nat}
theorem PaI.sp (H : PaI h un) : 0 ≤ un ∧ un ≤ 8 ∧ ∃ ps P C, PaC h un ps P ∧ PaM h un P C := by
  obtain ⟨u0, u1, ps, P, C, R, a, b, c, x, y, z, w⟩ := H
  exact ⟨u0, u1, ps, P, C, ⟨a, x, y, z, fun i hi => (w i hi).1⟩, R, b, c, fun i hi => (w i hi).2⟩
theorem PaI.jn (u0 : 0 ≤ un) (u1 : un ≤ 8) (A : PaC h un ps P) (M : PaM h un P C) : PaI h un := by
  obtain ⟨a, x, y, z, w⟩ := A
  obtain ⟨R, b, c, v⟩ := M
  exact ⟨u0, u1, ps, P, C, R, a, b, c, x, y, z, fun i hi => ⟨w i hi, v i hi⟩⟩
theorem PaC.slot (A : PaC h un ps P) {i : Nat} (hi : i < 8) : ∃ D : Bo, BdH h (ps i) D ∧ BoOK D := by
  have q := A.2.1 i hi
  obtain ⟨D, e, o⟩ := A.2.2.2.1 ((ps i - 68) / 4) (by omega)
  refine ⟨D, ?_, o⟩
  rw [show 68 + 4 * ((ps i - 68) / 4) = ps i by omega] at e
  exact e
theorem PaC.rd (A : PaC h un ps P) {i : Int} (h0 : 0 ≤ i) (h1 : i < 8) : rdar 24 h 15 i = some (ps i.toNat : Int) := by
  refine rdar_n (n := 15) A.1 h0 ?_ (by omega)
  rw [List.getElem?_map, List.getElem?_range (by omega)]
  rfl
theorem PaC.put (A : PaC h un ps P) (u0 : 0 ≤ un) (u1 : un < 8) (O : BoOK B) : PaC (setB h (ps un.toNat) B) (un + 1) ps (fun i => if (i : Int) = un then B else P i) := by
  obtain ⟨D, e, o⟩ := A.slot (i := un.toNat) (by omega)
  have q := A.2.1 un.toNat (by omega)
  have hl := e.lt
  refine ⟨by rw [setB_ne hl (by omega)]; exact A.1, A.2.1, A.2.2.1, fun k hk => ?_, fun i hi => ?_⟩
  · by_cases z : 68 + 4 * k = ps un.toNat
    · rw [z]; exact ⟨B, bdH_set hl, O⟩
    · obtain ⟨D', e', o'⟩ := A.2.2.2.1 k hk
      exact ⟨D', bdH_ne hl e' (by omega), o'⟩
  · show BdH _ (ps i) (if (i : Int) = un then B else P i)
    by_cases z : (i : Int) = un
    · rw [if_pos z]
      rw [show i = un.toNat by omega]
      exact bdH_set hl
    · rw [if_neg z]
      have q2 := A.2.1 i (by omega)
      have : ps i ≠ ps un.toNat := fun y => z (by have := A.2.2.1 i un.toNat (by omega) (by omega) y; omega)
      exact bdH_ne hl (A.2.2.2.2 i (by omega)) (by omega)
theorem PaC.rot (A : PaC h 8 ps P) : PaC (h.set 15 (24, (List.range 8).map (fun i => (ps (if i = 7 then 0 else i + 1) : Int)))) 7 (fun i => ps (if i = 7 then 0 else i + 1)) (fun i => P (i + 1)) := by
  have hl := gtl A.1
  refine ⟨getS hl, fun i hi => ?_, fun i j hi hj e => ?_, fun k hk => ?_, fun i hi => ?_⟩
  · have := A.2.1 (if i = 7 then 0 else i + 1) (by split <;> omega)
    exact this
  · have e : ps (if i = 7 then 0 else i + 1) = ps (if j = 7 then 0 else j + 1) := e
    have := A.2.2.1 _ _ (by split <;> omega) (by split <;> omega) e
    split at this <;> split at this <;> omega
  · obtain ⟨D', e', o'⟩ := A.2.2.2.1 k hk
    exact ⟨D', e'.fr (P := fun j => j = 15) (fr_set rfl) (fun j a b => by omega), o'⟩
  · have := A.2.2.2.2 (i + 1) (by omega)
    have q := A.2.1 (i + 1) (by omega)
    show BdH _ (ps (if i = 7 then 0 else i + 1)) (P (i + 1))
    rw [if_neg (by omega)]
    exact this.fr (P := fun j => j = 15) (fr_set rfl) (fun j a b => by omega)
theorem c_remStep {o : Int} {xs : List Int} (H : SsI h un) (hl : 15 < h.length) (hx : xs.length = 8) {c : Int} (c1 : 1 ≤ c) (c8 : c < 8) (hp : 0 ≤ xs.getD c.toNat 0) : run (d + 1) m_Ss_remember 18 [(106, 2), (100, o), (0, c)] [] (h.set 15 (24, xs)) = run (d + 1) m_Ss_remember 18 [(106, 2), (100, o), (0, c + 1)] [] (h.set 15 (24, xs.set (c - 1).toNat (xs.getD c.toNat 0))) := by
  have H' : SsI (h.set 15 (24, xs)) un := H.fr (P := fun j => j = 15) (fr_set rfl) (by omega)
  have e1 : rdar 24 (h.set 15 (24, xs)) 15 c = some (xs.getD c.toNat 0) := rdar_n (n := 15) (getS hl) (by omega) (getD_some (by omega)) hp
  have e2 : wra 24 (h.set 15 (24, xs)) 15 (c - 1) (xs.getD c.toNat 0) = some ((h.set 15 (24, xs)).set 15 (24, xs.set (c - 1).toNat (xs.getD c.toNat 0))) := wra_i (n := 15) (getS hl) (by omega) (by omega) _
  rw [k_Ss_remember_18, if_pos c8, H'.r3, Option.bind_some, Option.bind_some, e1, Option.bind_some, sub_id (by omega) (by omega), e2, Option.bind_some, List.set_set, add_id (by omega) (by omega)]
theorem set_same {n : Nat} {c : Nat × List Int} (e : h[n]? = some c) : h.set n c = h := by
  apply List.ext_getElem?
  intro j
  by_cases z : n = j
  · subst z; rw [getS (gtl e), e]
  · rw [getN z]
/-- what the class does to remember -/
theorem c_remember (H : SsI h un) (A : PaC h un ps P) (u0 : 0 ≤ un) (u1 : un ≤ 8) (N : BdH h 11 B) (O : BoOK B) : ∃ (h' : AH) (un' : Int) (ps' : Nat → Nat) (P' : Nat → Bo), cal (d + 2) m_Ss_remember [(106, 2)] h = some (0, h') ∧ un' = (if un < 8 then un + 1 else 8) ∧ SsI h' un' ∧ PaC h' un' ps' P' ∧ Fr (fun j => j = 2 ∨ j = 15 ∨ (68 ≤ j ∧ j < 100)) h h' ∧ P' = (if un < 8 then (fun i : Nat => if (i : Int) = un then B else P i) else (fun i : Nat => if (i : Int) = 7 then B else P (i + 1))) := by
  have main : ∀ (g : AH) (u : Int) (qs : Nat → Nat) (Q : Nat → Bo), SsI g u → PaC g u qs Q → 0 ≤ u → u < 8 → BdH g 11 B → ∃ h' : AH, ((rdf 6 g 2 10).bind fun y3 => (rdar 24 g 15 y3).bind fun y4 => (rdr 6 g 2 2).bind fun y5 => (cal (d + 1) m_Bd_copy [(100, y4), (100, y5)] g).bind fun q6 => (rdf 6 q6.2 2 10).bind fun y7 => (wrf 6 q6.2 2 10 (a_add y7 1)).bind fun h8 => some ((0 : Int), h8)) = some (0, h') ∧ SsI h' (u + 1) ∧ PaC h' (u + 1) qs (fun i => if (i : Int) = u then B else Q i) ∧ Fr (fun j => j = 2 ∨ j = 15 ∨ (68 ≤ j ∧ j < 100)) g h' := by
    intro g u qs Q H A u0 u1 N
    obtain ⟨D, e, o⟩ := A.slot (i := u.toNat) (by omega)
    have q := A.2.1 u.toNat (by omega)
    have hl := e.lt
    have cp : cal (d + 1) m_Bd_copy [(100, (qs u.toNat : Int)), (100, 11)] g = some (0, setB g (qs u.toNat) B) := c_copy (n := qs u.toNat) (n' := 11) e N o O (by omega)
    have F : Fr (fun j => j = 2 ∨ j = 15 ∨ (68 ≤ j ∧ j < 100)) g (setB g (qs u.toNat) B) := fr_setB hl (fun j a b => by omega)
    have H2 : SsI (setB g (qs u.toNat) B) u := by unfold SsI; rw [setB_ne hl (by omega)]; exact H
    have A2 := A.put (B := B) u0 u1 O
    refine ⟨(setB g (qs u.toNat) B).set 2 (6, [3, 7, 11, 15, 16, 17, 18, 20, 46, 51, u + 1]), ?_, H2.st _, ?_, F.tr (fr_set (Or.inl rfl))⟩
    · simp only [H.ru, A.rd u0 u1, H.r2, cp, H2.ru, Option.bind_some]
      rw [add_id (by omega) (by omega), H2.wu, Option.bind_some]
    · refine ⟨by rw [getN (by omega)]; exact A2.1, A2.2.1, A2.2.2.1, fun k hk => ?_, fun i hi => ?_⟩
      · obtain ⟨D', e', o'⟩ := A2.2.2.2.1 k hk
        exact ⟨D', e'.fr (P := fun j => j = 2) (fr_set rfl) (fun j a b => by omega), o'⟩
      · have q3 := A.2.1 i (by omega)
        exact (A2.2.2.2.2 i hi).fr (P := fun j => j = 2) (fr_set rfl) (fun j a b => by omega)
  by_cases c : un < 8
  · obtain ⟨h', e1, e2, e3, e4⟩ := main h un ps P H A u0 c N
    refine ⟨h', un + 1, ps, _, ?_, by rw [if_pos c], e2, e3, e4, by rw [if_pos c]⟩
    rw [k_Ss_remember, H.ru, Option.bind_some, if_pos c, H.r3, Option.bind_some]
    rw [H.ru] at e1
    exact e1
  · have e8 : un = 8 := by omega
    subst e8
    have hl := gtl A.1
    have hl2 := gtl H
    have A2 := A.rot
    have H1 : SsI (h.set 15 (24, (List.range 8).map (fun i => (ps (if i = 7 then 0 else i + 1) : Int)))) 8 := H.fr (P := fun j => j = 15) (fr_set rfl) (by omega)
    have H2 := H1.st 7
    have A3 : PaC ((h.set 15 (24, (List.range 8).map (fun i => (ps (if i = 7 then 0 else i + 1) : Int)))).set 2 (6, [3, 7, 11, 15, 16, 17, 18, 20, 46, 51, 7])) 7 (fun i => ps (if i = 7 then 0 else i + 1)) (fun i => P (i + 1)) := by
      refine ⟨by rw [getN (by omega)]; exact A2.1, A2.2.1, A2.2.2.1, fun k hk => ?_, fun i hi => ?_⟩
      · obtain ⟨D', e', o'⟩ := A2.2.2.2.1 k hk
        exact ⟨D', e'.fr (P := fun j => j = 2) (fr_set rfl) (fun j a b => by omega), o'⟩
      · have q3 := A2.2.1 i (by omega)
        exact (A2.2.2.2.2 i hi).fr (P := fun j => j = 2) (fr_set rfl) (fun j a b => by omega)
    have N2 : BdH ((h.set 15 (24, (List.range 8).map (fun i => (ps (if i = 7 then 0 else i + 1) : Int)))).set 2 (6, [3, 7, 11, 15, 16, 17, 18, 20, 46, 51, 7])) 11 B := (N.fr (P := fun j => j = 15) (fr_set rfl) (fun j a b => by omega)).fr (P := fun j => j = 2) (fr_set rfl) (fun j a b => by omega)
    obtain ⟨h', e1, e2, e3, e4⟩ := main _ 7 _ _ H2 A3 (by omega) (by omega) N2
    refine ⟨h', 8, _, _, ?_, by rw [if_neg c], e2, e3, ((fr_set (Or.inr (Or.inl rfl))).tr (fr_set (Or.inl rfl))).tr e4, by rw [if_neg c]⟩
    have r0 : rdar 24 h 15 0 = some (ps 0 : Int) := A.rd (by omega) (by omega)
    rw [k_Ss_remember, H.ru, Option.bind_some, if_neg c, H.r3, Option.bind_some, r0, Option.bind_some]
    refine Eq.trans (b := run (d + 2) m_Ss_remember 18 [(106, 2), (100, (ps 0 : Int)), (0, 1)] [] (h.set 15 (24, [(ps 0 : Int), (ps 1 : Int), (ps 2 : Int), (ps 3 : Int), (ps 4 : Int), (ps 5 : Int), (ps 6 : Int), (ps 7 : Int)]))) (by rw [set_same (c := (24, [(ps 0 : Int), (ps 1 : Int), (ps 2 : Int), (ps 3 : Int), (ps 4 : Int), (ps 5 : Int), (ps 6 : Int), (ps 7 : Int)])) A.1]) ?_
    rw [c_remStep H hl rfl (by omega) (by omega) (Int.natCast_nonneg _)]
    rw [c_remStep H hl rfl (by omega) (by omega) (Int.natCast_nonneg _)]
    rw [c_remStep H hl rfl (by omega) (by omega) (Int.natCast_nonneg _)]
    rw [c_remStep H hl rfl (by omega) (by omega) (Int.natCast_nonneg _)]
    rw [c_remStep H hl rfl (by omega) (by omega) (Int.natCast_nonneg _)]
    rw [c_remStep H hl rfl (by omega) (by omega) (Int.natCast_nonneg _)]
    rw [c_remStep H hl rfl (by omega) (by omega) (Int.natCast_nonneg _)]
    have H9 : SsI (h.set 15 (24, [(ps 1 : Int), (ps 2 : Int), (ps 3 : Int), (ps 4 : Int), (ps 5 : Int), (ps 6 : Int), (ps 7 : Int), (ps 7 : Int)])) 8 := H.fr (P := fun j => j = 15) (fr_set rfl) (by omega)
    show run (d + 2) m_Ss_remember 18 [(106, 2), (100, (ps 0 : Int)), (0, 8)] [] (h.set 15 (24, [(ps 1 : Int), (ps 2 : Int), (ps 3 : Int), (ps 4 : Int), (ps 5 : Int), (ps 6 : Int), (ps 7 : Int), (ps 7 : Int)])) = _
    have w9 : wra 24 (h.set 15 (24, [(ps 1 : Int), (ps 2 : Int), (ps 3 : Int), (ps 4 : Int), (ps 5 : Int), (ps 6 : Int), (ps 7 : Int), (ps 7 : Int)])) 15 7 (ps 0 : Int) = some (h.set 15 (24, (List.range 8).map (fun i => (ps (if i = 7 then 0 else i + 1) : Int)))) := by
      refine (wra_i (n := 15) (getS hl) (by omega) (by simp) _).trans ?_
      rw [List.set_set]
      rfl
    rw [k_Ss_remember_18, if_neg (by omega), H9.r3, Option.bind_some, w9, Option.bind_some, H1.wu, Option.bind_some, H2.r3, Option.bind_some]
    exact e1
end PA
