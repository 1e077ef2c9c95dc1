/-! alike: the model's row of pairs. -/
def AL (h : AH) (hd ro ho wh tg li A B : List Int) : Prop := ML h hd ro ho wh tg li ∧ hd[29]? = some 128 ∧ hd[30]? = some 129 ∧ h[128]? = some (20, A) ∧ h[129]? = some (20, B) ∧ A.length = 24 ∧ B.length = 24
def QB (j : Nat) : Prop := j = 128 ∨ j = 129
def QI (Z : Nat → Bk) (rk : Nat → Nat) (A B : List Int) (n t k : Nat) : Prop :=
  (∀ i, i < n → 0 ≤ A.getD i 0 ∧ A.getD i 0 < 5 ∧ 0 ≤ B.getD i 0 ∧ B.getD i 0 < 5) ∧
  (∀ i j, i < n → j < n → A.getD i 0 = A.getD j 0 → i = j) ∧
  (∀ i, 1 ≤ i → i < n → ∃ u, (Z (A.getD i 0).toNat).n = A.getD u 0 ∧ u < n ∧ (u < t ∨ (u = t ∧ ∃ l : Nat, l < k ∧ (Z (A.getD t 0).toNat).w.getD l 0 = 2 ∧ (Z (A.getD t 0).toNat).v.getD l 0 = A.getD i 0))) ∧
  (∀ i, i < n → rk (A.getD 0 0).toNat ≤ rk (A.getD i 0).toNat)
section QIS
variable {Z : Nat → Bk} {rk : Nat → Nat} {A B : List Int} {n t k : Nat}
theorem QI.n5 (q : QI Z rk A B n t k) : n ≤ 5 := by
  by_cases z : n ≤ 5
  · exact z
  · exfalso
    have r : ∀ i, i < 6 → (A.getD i 0).toNat < 5 := fun i hi => by have := q.1 i (by omega); omega
    have e : ∀ i j, i < 6 → j < 6 → (A.getD i 0).toNat = (A.getD j 0).toNat → i = j := fun i j hi hj w => by
      have a := q.1 i (by omega)
      have b := q.1 j (by omega)
      exact q.2.1 i j (by omega) (by omega) (by omega)
    have pg := pig ⟨_, r 0 (by omega)⟩ ⟨_, r 1 (by omega)⟩ ⟨_, r 2 (by omega)⟩ ⟨_, r 3 (by omega)⟩ ⟨_, r 4 (by omega)⟩ ⟨_, r 5 (by omega)⟩
    simp only [Fin.mk.injEq] at pg
    rcases pg with w | w | w | w | w | w | w | w | w | w | w | w | w | w | w <;> (have := e _ _ (by omega) (by omega) w; omega)
theorem QI.step (q : QI Z rk A B n t k) : QI Z rk A B n t (k + 1) := by
  refine ⟨q.1, q.2.1, fun i a b => ?_, q.2.2.2⟩
  obtain ⟨u, e, un, d⟩ := q.2.2.1 i a b
  refine ⟨u, e, un, ?_⟩
  rcases d with d | ⟨d, l, l1, l2⟩
  · exact Or.inl d
  · exact Or.inr ⟨d, l, by omega, l2⟩
theorem QI.next (q : QI Z rk A B n t k) : QI Z rk A B n (t + 1) 0 := by
  refine ⟨q.1, q.2.1, fun i a b => ?_, q.2.2.2⟩
  obtain ⟨u, e, un, d⟩ := q.2.2.1 i a b
  refine ⟨u, e, un, Or.inl ?_⟩
  rcases d with d | ⟨d, -⟩ <;> omega
theorem QI.push (q : QI Z rk A B n t k) (m : ZM Z) (hrk : ∀ j, j < 5 → (Z j).n ≠ -1 → rk (Z j).n.toNat < rk j) (la : A.length = 24) (lb : B.length = 24) (tn : t < n) {p : Nat} (pe : A.getD t 0 = (p : Int)) (ks : (k : Int) < (Z p).s) (w : (Z p).w.getD k 0 = 2) {v' : Int} (v0 : 0 ≤ v') (v5 : v' < 5) : QI Z rk (A.set n ((Z p).v.getD k 0)) (B.set n v') (n + 1) t (k + 1) := by
  have n5 := q.n5
  have p5 : p < 5 := by have := q.1 t tn; omega
  have kid := m.kid p5 ks w
  have oA : ∀ i, i < n → (A.set n ((Z p).v.getD k 0)).getD i 0 = A.getD i 0 := fun i hi => gd_ne (by omega)
  have oB : ∀ i, i < n → (B.set n v').getD i 0 = B.getD i 0 := fun i hi => gd_ne (by omega)
  have nA : (A.set n ((Z p).v.getD k 0)).getD n 0 = (Z p).v.getD k 0 := by rw [gds (by omega), if_pos rfl]
  have nB : (B.set n v').getD n 0 = v' := by rw [gds (by omega), if_pos rfl]
  have rkn := hrk ((Z p).v.getD k 0).toNat (by omega) (by omega)
  rw [kid.2.2, Int.toNat_natCast] at rkn
  have rkt := q.2.2.2 t tn
  rw [pe, Int.toNat_natCast] at rkt
  have new : ∀ i, i < n → A.getD i 0 ≠ (Z p).v.getD k 0 := by
    intro i hi e
    by_cases i0 : i = 0
    · rw [i0] at e
      rw [e] at rkt
      omega
    · obtain ⟨u, ue, un, d⟩ := q.2.2.1 i (by omega) hi
      rw [e, kid.2.2, ← pe] at ue
      have ut := q.2.1 t u tn un ue
      rcases d with d | ⟨-, l, l1, l2, l3⟩
      · omega
      · rw [pe, Int.toNat_natCast] at l2 l3
        have := m.2.2.2.1 p p5 l k (by omega) ks l2 w (by rw [l3, e])
        omega
  refine ⟨fun i hi => ?_, fun i j hi hj e => ?_, fun i i1 hi => ?_, fun i hi => ?_⟩
  · by_cases z : i = n
    · rw [z, nA, nB]; omega
    · rw [oA i (by omega), oB i (by omega)]; exact q.1 i (by omega)
  · by_cases z : i = n
    · by_cases y : j = n
      · omega
      · rw [z, nA, oA j (by omega)] at e; exact absurd e.symm (new j (by omega))
    · by_cases y : j = n
      · rw [y, nA, oA i (by omega)] at e; exact absurd e (new i (by omega))
      · rw [oA i (by omega), oA j (by omega)] at e; exact q.2.1 i j (by omega) (by omega) e
  · rw [oA t tn]
    by_cases z : i = n
    · rw [z, nA]
      refine ⟨t, by rw [oA t tn, pe]; exact kid.2.2, by omega, Or.inr ⟨rfl, k, by omega, ?_, ?_⟩⟩
      · rw [pe, Int.toNat_natCast]; exact w
      · rw [pe, Int.toNat_natCast]
    · rw [oA i (by omega)]
      obtain ⟨u, ue, un, d⟩ := q.2.2.1 i i1 (by omega)
      refine ⟨u, by rw [oA u un]; exact ue, by omega, ?_⟩
      rcases d with d | ⟨d, l, l1, l2⟩
      · exact Or.inl d
      · exact Or.inr ⟨d, l, by omega, l2⟩
  · rw [oA 0 (by omega)]
    by_cases z : i = n
    · rw [z, nA]; omega
    · rw [oA i (by omega)]; exact q.2.2.2 i (by omega)
end QIS
section ALS
variable {h : AH} {hd ro ho wh tg li A B : List Int}
theorem AL.a29 (H : AL h hd ro ho wh tg li A B) : rdr 7 h 108 29 = some 128 := hmr H.1.1 H.2.1 (by omega)
theorem AL.a30 (H : AL h hd ro ho wh tg li A B) : rdr 7 h 108 30 = some 129 := hmr H.1.1 H.2.2.1 (by omega)
theorem AL.rA (H : AL h hd ro ho wh tg li A B) {i : Nat} (hi : i < 24) : rda 20 h 128 (i : Int) = some (A.getD i 0) := by
  have := rdA (n := 128) (i := (i : Int)) H.2.2.2.1 (by omega) (by have := H.2.2.2.2.2.1; omega)
  rw [Int.toNat_natCast] at this
  exact this
theorem AL.rB (H : AL h hd ro ho wh tg li A B) {i : Nat} (hi : i < 24) : rda 20 h 129 (i : Int) = some (B.getD i 0) := by
  have := rdA (n := 129) (i := (i : Int)) H.2.2.2.2.1 (by omega) (by have := H.2.2.2.2.2.2; omega)
  rw [Int.toNat_natCast] at this
  exact this
theorem AL.ml {h' : AH} (M : ML h hd ro ho wh tg li) (F : Fr QB h h') : ML h' hd ro ho wh tg li := by
  have G : ∀ j, j < 128 → h'[j]? = h[j]? := fun j hj => F.g j (by unfold QB; omega)
  obtain ⟨a, b1, b2, b3, b4, b5, c1, c2, c3, c4, c5, l⟩ := M
  exact ⟨by rw [G _ (by omega)]; exact a, b1, b2, b3, b4, b5, by rw [G _ (by omega)]; exact c1, by rw [G _ (by omega)]; exact c2, by rw [G _ (by omega)]; exact c3, by rw [G _ (by omega)]; exact c4, by rw [G _ (by omega)]; exact c5, l⟩
theorem AL.wA (H : AL h hd ro ho wh tg li A B) {i : Nat} (hi : i < 24) (v : Int) : ∃ h' : AH, wra 20 h 128 (i : Int) v = some h' ∧ AL h' hd ro ho wh tg li (A.set i v) B ∧ Fr QB h h' := by
  obtain ⟨M, e1, e2, e3, e4, l1, l2⟩ := H
  have F : Fr QB h (h.set 128 (20, A.set (i : Int).toNat v)) := fr_set (Or.inl rfl)
  refine ⟨_, wra_i (n := 128) e3 (by omega) (by omega) v, ⟨AL.ml M F, e1, e2, ?_, by rw [getN (by omega)]; exact e4, by rw [List.length_set]; exact l1, l2⟩, F⟩
  rw [Int.toNat_natCast]; exact getS (gtl e3)
theorem AL.wB (H : AL h hd ro ho wh tg li A B) {i : Nat} (hi : i < 24) (v : Int) : ∃ h' : AH, wra 20 h 129 (i : Int) v = some h' ∧ AL h' hd ro ho wh tg li A (B.set i v) ∧ Fr QB h h' := by
  obtain ⟨M, e1, e2, e3, e4, l1, l2⟩ := H
  have F : Fr QB h (h.set 129 (20, B.set (i : Int).toNat v)) := fr_set (Or.inr rfl)
  refine ⟨_, wra_i (n := 129) e4 (by omega) (by omega) v, ⟨AL.ml M F, e1, e2, by rw [getN (by omega)]; exact e3, ?_, l1, by rw [List.length_set]; exact l2⟩, F⟩
  rw [Int.toNat_natCast]; exact getS (gtl e4)
end ALS
