/-! Boxes: the class's cells, the model's rows. -/
def Bk : Type := Int × Int × Int × Int × List Int × List Int
def Bk.r (b : Bk) : Int := b.1
def Bk.s (b : Bk) : Int := b.2.1
def Bk.t (b : Bk) : Int := b.2.2.1
def Bk.n (b : Bk) : Int := b.2.2.2.1
def Bk.w (b : Bk) : List Int := b.2.2.2.2.1
def Bk.v (b : Bk) : List Int := b.2.2.2.2.2
def mkK (r s t n : Int) (w v : List Int) : Bk := (r, s, t, n, w, v)
def zu (Z : Nat → Bk) (i : Nat) (b : Bk) : Nat → Bk := fun j => if j = i then b else Z j
theorem zu_s {Z : Nat → Bk} {i : Nat} {b : Bk} : zu Z i b i = b := if_pos rfl
theorem zu_n {Z : Nat → Bk} {i j : Nat} {b : Bk} (h : j ≠ i) : zu Z i b j = Z j := if_neg h
def BkH (h : AH) (i : Nat) (b : Bk) : Prop := h[53 + 3 * i]? = some (1, [((54 + 3 * i : Nat) : Int), ((55 + 3 * i : Nat) : Int), b.r, b.s, b.t, b.n]) ∧ h[54 + 3 * i]? = some (20, b.w) ∧ h[55 + 3 * i]? = some (20, b.v)
def XH (h : AH) (Z : Nat → Bk) : Prop := h[51]? = some (2, [52]) ∧ h[52]? = some (25, [53, 56, 59, 62, 65]) ∧ ∀ i, i < 5 → BkH h i (Z i)
def XB (j : Nat) : Prop := 53 ≤ j ∧ j < 68
section XHS
variable {h h' : AH} {Z : Nat → Bk} {i : Nat}
theorem BkH.fr {P : Nat → Prop} {b : Bk} (H : BkH h i b) (F : Fr P h h') (a : ¬ P (53 + 3 * i)) (b' : ¬ P (54 + 3 * i)) (c : ¬ P (55 + 3 * i)) : BkH h' i b := ⟨by rw [F.g _ a]; exact H.1, by rw [F.g _ b']; exact H.2.1, by rw [F.g _ c]; exact H.2.2⟩
theorem XH.ra (X : XH h Z) : rdr 2 h 51 0 = some 52 := rdr_n (n := 51) X.1 rfl (by omega)
theorem XH.rb (X : XH h Z) (hi : i < 5) : rdar 25 h 52 (i : Int) = some ((53 + 3 * i : Nat) : Int) := by
  refine rdar_n (n := 52) X.2.1 (by omega) ?_ (by omega)
  rw [Int.toNat_natCast]
  rcases five hi with rfl | rfl | rfl | rfl | rfl <;> rfl
theorem XH.f2 (X : XH h Z) (hi : i < 5) : rdf 1 h ((53 + 3 * i : Nat) : Int) 2 = some (Z i).r := rdf_n (X.2.2 i hi).1 2
theorem XH.f3 (X : XH h Z) (hi : i < 5) : rdf 1 h ((53 + 3 * i : Nat) : Int) 3 = some (Z i).s := rdf_n (X.2.2 i hi).1 3
theorem XH.f4 (X : XH h Z) (hi : i < 5) : rdf 1 h ((53 + 3 * i : Nat) : Int) 4 = some (Z i).t := rdf_n (X.2.2 i hi).1 4
theorem XH.f5 (X : XH h Z) (hi : i < 5) : rdf 1 h ((53 + 3 * i : Nat) : Int) 5 = some (Z i).n := rdf_n (X.2.2 i hi).1 5
theorem XH.p0 (X : XH h Z) (hi : i < 5) : rdr 1 h ((53 + 3 * i : Nat) : Int) 0 = some ((54 + 3 * i : Nat) : Int) := rdr_n (X.2.2 i hi).1 rfl (by omega)
theorem XH.p1 (X : XH h Z) (hi : i < 5) : rdr 1 h ((53 + 3 * i : Nat) : Int) 1 = some ((55 + 3 * i : Nat) : Int) := rdr_n (X.2.2 i hi).1 rfl (by omega)
theorem XH.rw (X : XH h Z) (hi : i < 5) {k : Int} (k0 : 0 ≤ k) (k1 : k.toNat < (Z i).w.length) : rda 20 h ((54 + 3 * i : Nat) : Int) k = some ((Z i).w.getD k.toNat 0) := rdA (X.2.2 i hi).2.1 k0 k1
theorem XH.rv (X : XH h Z) (hi : i < 5) {k : Int} (k0 : 0 ≤ k) (k1 : k.toNat < (Z i).v.length) : rda 20 h ((55 + 3 * i : Nat) : Int) k = some ((Z i).v.getD k.toNat 0) := rdA (X.2.2 i hi).2.2 k0 k1
theorem XH.fr {P : Nat → Prop} (X : XH h Z) (F : Fr P h h') (q : ∀ j, 51 ≤ j → j < 68 → ¬ P j) : XH h' Z := ⟨by rw [F.g _ (q _ (by omega) (by omega))]; exact X.1, by rw [F.g _ (q _ (by omega) (by omega))]; exact X.2.1, fun i hi => (X.2.2 i hi).fr F (q _ (by omega) (by omega)) (q _ (by omega) (by omega)) (q _ (by omega) (by omega))⟩
theorem XH.st0 (X : XH h Z) (hi : i < 5) (b : Bk) (e1 : b.w = (Z i).w) (e2 : b.v = (Z i).v) : XH (h.set (53 + 3 * i) (1, [((54 + 3 * i : Nat) : Int), ((55 + 3 * i : Nat) : Int), b.r, b.s, b.t, b.n])) (zu Z i b) ∧ Fr XB h (h.set (53 + 3 * i) (1, [((54 + 3 * i : Nat) : Int), ((55 + 3 * i : Nat) : Int), b.r, b.s, b.t, b.n])) := by
  refine ⟨⟨by rw [getN (by omega)]; exact X.1, by rw [getN (by omega)]; exact X.2.1, fun j hj => ?_⟩, fr_set ⟨by omega, by omega⟩⟩
  by_cases z : j = i
  · subst z
    rw [zu_s]
    exact ⟨getS (gtl (X.2.2 j hj).1), by rw [getN (by omega), e1]; exact (X.2.2 j hj).2.1, by rw [getN (by omega), e2]; exact (X.2.2 j hj).2.2⟩
  · rw [zu_n z]
    exact ⟨by rw [getN (by omega)]; exact (X.2.2 j hj).1, by rw [getN (by omega)]; exact (X.2.2 j hj).2.1, by rw [getN (by omega)]; exact (X.2.2 j hj).2.2⟩
theorem XH.st1 (X : XH h Z) (hi : i < 5) (xs : List Int) : XH (h.set (54 + 3 * i) (20, xs)) (zu Z i (mkK (Z i).r (Z i).s (Z i).t (Z i).n xs (Z i).v)) ∧ Fr XB h (h.set (54 + 3 * i) (20, xs)) := by
  refine ⟨⟨by rw [getN (by omega)]; exact X.1, by rw [getN (by omega)]; exact X.2.1, fun j hj => ?_⟩, fr_set ⟨by omega, by omega⟩⟩
  by_cases z : j = i
  · subst z
    rw [zu_s]
    exact ⟨by rw [getN (by omega)]; exact (X.2.2 j hj).1, getS (gtl (X.2.2 j hj).2.1), by rw [getN (by omega)]; exact (X.2.2 j hj).2.2⟩
  · rw [zu_n z]
    exact ⟨by rw [getN (by omega)]; exact (X.2.2 j hj).1, by rw [getN (by omega)]; exact (X.2.2 j hj).2.1, by rw [getN (by omega)]; exact (X.2.2 j hj).2.2⟩
theorem XH.st2 (X : XH h Z) (hi : i < 5) (xs : List Int) : XH (h.set (55 + 3 * i) (20, xs)) (zu Z i (mkK (Z i).r (Z i).s (Z i).t (Z i).n (Z i).w xs)) ∧ Fr XB h (h.set (55 + 3 * i) (20, xs)) := by
  refine ⟨⟨by rw [getN (by omega)]; exact X.1, by rw [getN (by omega)]; exact X.2.1, fun j hj => ?_⟩, fr_set ⟨by omega, by omega⟩⟩
  by_cases z : j = i
  · subst z
    rw [zu_s]
    exact ⟨by rw [getN (by omega)]; exact (X.2.2 j hj).1, by rw [getN (by omega)]; exact (X.2.2 j hj).2.1, getS (gtl (X.2.2 j hj).2.2)⟩
  · rw [zu_n z]
    exact ⟨by rw [getN (by omega)]; exact (X.2.2 j hj).1, by rw [getN (by omega)]; exact (X.2.2 j hj).2.1, by rw [getN (by omega)]; exact (X.2.2 j hj).2.2⟩
theorem XH.wr (X : XH h Z) (hi : i < 5) (v : Int) : ∃ h' : AH, wrf 1 h ((53 + 3 * i : Nat) : Int) 2 v = some h' ∧ XH h' (zu Z i (mkK v (Z i).s (Z i).t (Z i).n (Z i).w (Z i).v)) ∧ Fr XB h h' := ⟨_, wrf_n (X.2.2 i hi).1 (by simp) v, X.st0 hi (mkK v (Z i).s (Z i).t (Z i).n (Z i).w (Z i).v) rfl rfl⟩
theorem XH.ws (X : XH h Z) (hi : i < 5) (v : Int) : ∃ h' : AH, wrf 1 h ((53 + 3 * i : Nat) : Int) 3 v = some h' ∧ XH h' (zu Z i (mkK (Z i).r v (Z i).t (Z i).n (Z i).w (Z i).v)) ∧ Fr XB h h' := ⟨_, wrf_n (X.2.2 i hi).1 (by simp) v, X.st0 hi (mkK (Z i).r v (Z i).t (Z i).n (Z i).w (Z i).v) rfl rfl⟩
theorem XH.wt (X : XH h Z) (hi : i < 5) {v : Int} (hv : v = 0 ∨ v = 1) : ∃ h' : AH, wrfb 1 h ((53 + 3 * i : Nat) : Int) 4 v = some h' ∧ XH h' (zu Z i (mkK (Z i).r (Z i).s v (Z i).n (Z i).w (Z i).v)) ∧ Fr XB h h' := ⟨_, by unfold wrfb; rw [if_pos hv]; exact wrf_n (X.2.2 i hi).1 (by simp) v, X.st0 hi (mkK (Z i).r (Z i).s v (Z i).n (Z i).w (Z i).v) rfl rfl⟩
theorem XH.wn (X : XH h Z) (hi : i < 5) (v : Int) : ∃ h' : AH, wrf 1 h ((53 + 3 * i : Nat) : Int) 5 v = some h' ∧ XH h' (zu Z i (mkK (Z i).r (Z i).s (Z i).t v (Z i).w (Z i).v)) ∧ Fr XB h h' := ⟨_, wrf_n (X.2.2 i hi).1 (by simp) v, X.st0 hi (mkK (Z i).r (Z i).s (Z i).t v (Z i).w (Z i).v) rfl rfl⟩
theorem XH.ww (X : XH h Z) (hi : i < 5) {k : Int} (k0 : 0 ≤ k) (k1 : k.toNat < (Z i).w.length) (v : Int) : ∃ h' : AH, wra 20 h ((54 + 3 * i : Nat) : Int) k v = some h' ∧ XH h' (zu Z i (mkK (Z i).r (Z i).s (Z i).t (Z i).n ((Z i).w.set k.toNat v) (Z i).v)) ∧ Fr XB h h' := ⟨_, wra_i (X.2.2 i hi).2.1 k0 k1 v, X.st1 hi _⟩
theorem XH.wv (X : XH h Z) (hi : i < 5) {k : Int} (k0 : 0 ≤ k) (k1 : k.toNat < (Z i).v.length) (v : Int) : ∃ h' : AH, wra 20 h ((55 + 3 * i : Nat) : Int) k v = some h' ∧ XH h' (zu Z i (mkK (Z i).r (Z i).s (Z i).t (Z i).n (Z i).w ((Z i).v.set k.toNat v))) ∧ Fr XB h h' := ⟨_, wra_i (X.2.2 i hi).2.2 k0 k1 v, X.st2 hi _⟩
theorem XH.eq {Y : Nat → Bk} (X : XH h Z) (e : ∀ i, i < 5 → Y i = Z i) : XH h Y := ⟨X.1, X.2.1, fun i hi => by rw [e i hi]; exact X.2.2 i hi⟩
end XHS
def YB (j : Nat) : Prop := 123 ≤ j ∧ j < 128
/-- the model's five rows of the boxes -/
def ML (h : AH) (hd ro ho wh tg li : List Int) : Prop := h[108]? = some (7, hd) ∧ hd[24]? = some 123 ∧ hd[25]? = some 124 ∧ hd[26]? = some 125 ∧ hd[27]? = some 126 ∧ hd[28]? = some 127 ∧ h[123]? = some (20, ro) ∧ h[124]? = some (20, ho) ∧ h[125]? = some (20, wh) ∧ h[126]? = some (20, tg) ∧ h[127]? = some (20, li) ∧ ro.length = 5 ∧ ho.length = 5 ∧ wh.length = 20 ∧ tg.length = 20 ∧ li.length = 5
section MLS
variable {h : AH} {hd ro ho wh tg li : List Int}
theorem ML.a24 (M : ML h hd ro ho wh tg li) : rdr 7 h 108 24 = some 123 := hmr M.1 M.2.1 (by omega)
theorem ML.a25 (M : ML h hd ro ho wh tg li) : rdr 7 h 108 25 = some 124 := hmr M.1 M.2.2.1 (by omega)
theorem ML.a26 (M : ML h hd ro ho wh tg li) : rdr 7 h 108 26 = some 125 := hmr M.1 M.2.2.2.1 (by omega)
theorem ML.a27 (M : ML h hd ro ho wh tg li) : rdr 7 h 108 27 = some 126 := hmr M.1 M.2.2.2.2.1 (by omega)
theorem ML.a28 (M : ML h hd ro ho wh tg li) : rdr 7 h 108 28 = some 127 := hmr M.1 M.2.2.2.2.2.1 (by omega)
theorem ML.c (M : ML h hd ro ho wh tg li) : h[123]? = some (20, ro) ∧ h[124]? = some (20, ho) ∧ h[125]? = some (20, wh) ∧ h[126]? = some (20, tg) ∧ h[127]? = some (20, li) ∧ ro.length = 5 ∧ ho.length = 5 ∧ wh.length = 20 ∧ tg.length = 20 ∧ li.length = 5 := M.2.2.2.2.2.2
theorem ML.rR (M : ML h hd ro ho wh tg li) {i : Int} (h0 : 0 ≤ i) (h1 : i < 5) : rda 20 h 123 i = some (ro.getD i.toNat 0) := rdA (n := 123) M.c.1 h0 (by have := M.c.2.2.2.2.2.1; omega)
theorem ML.rH (M : ML h hd ro ho wh tg li) {i : Int} (h0 : 0 ≤ i) (h1 : i < 5) : rda 20 h 124 i = some (ho.getD i.toNat 0) := rdA (n := 124) M.c.2.1 h0 (by have := M.c.2.2.2.2.2.2.1; omega)
theorem ML.rW (M : ML h hd ro ho wh tg li) {i : Int} (h0 : 0 ≤ i) (h1 : i < 20) : rda 20 h 125 i = some (wh.getD i.toNat 0) := rdA (n := 125) M.c.2.2.1 h0 (by have := M.c.2.2.2.2.2.2.2.1; omega)
theorem ML.rT (M : ML h hd ro ho wh tg li) {i : Int} (h0 : 0 ≤ i) (h1 : i < 20) : rda 20 h 126 i = some (tg.getD i.toNat 0) := rdA (n := 126) M.c.2.2.2.1 h0 (by have := M.c.2.2.2.2.2.2.2.2.1; omega)
theorem ML.rL (M : ML h hd ro ho wh tg li) {i : Int} (h0 : 0 ≤ i) (h1 : i < 5) : rda 20 h 127 i = some (li.getD i.toNat 0) := rdA (n := 127) M.c.2.2.2.2.1 h0 (by have := M.c.2.2.2.2.2.2.2.2.2; omega)
theorem ML.wR (M : ML h hd ro ho wh tg li) {i : Int} (h0 : 0 ≤ i) (h1 : i < 5) (v : Int) : ∃ h' : AH, wra 20 h 123 i v = some h' ∧ ML h' hd (ro.set i.toNat v) ho wh tg li ∧ Fr YB h h' := by
  obtain ⟨a, b1, b2, b3, b4, b5, c1, c2, c3, c4, c5, l1, l2, l3, l4, l5⟩ := M
  exact ⟨_, wra_i (n := 123) c1 h0 (by omega) v, ⟨by rw [getN (by omega)]; exact a, b1, b2, b3, b4, b5, getS (gtl c1), by rw [getN (by omega)]; exact c2, by rw [getN (by omega)]; exact c3, by rw [getN (by omega)]; exact c4, by rw [getN (by omega)]; exact c5, by rw [List.length_set]; exact l1, l2, l3, l4, l5⟩, fr_set (by unfold YB; omega)⟩
theorem ML.wH (M : ML h hd ro ho wh tg li) {i : Int} (h0 : 0 ≤ i) (h1 : i < 5) (v : Int) : ∃ h' : AH, wra 20 h 124 i v = some h' ∧ ML h' hd ro (ho.set i.toNat v) wh tg li ∧ Fr YB h h' := by
  obtain ⟨a, b1, b2, b3, b4, b5, c1, c2, c3, c4, c5, l1, l2, l3, l4, l5⟩ := M
  exact ⟨_, wra_i (n := 124) c2 h0 (by omega) v, ⟨by rw [getN (by omega)]; exact a, b1, b2, b3, b4, b5, by rw [getN (by omega)]; exact c1, getS (gtl c2), by rw [getN (by omega)]; exact c3, by rw [getN (by omega)]; exact c4, by rw [getN (by omega)]; exact c5, l1, by rw [List.length_set]; exact l2, l3, l4, l5⟩, fr_set (by unfold YB; omega)⟩
theorem ML.wW (M : ML h hd ro ho wh tg li) {i : Int} (h0 : 0 ≤ i) (h1 : i < 20) (v : Int) : ∃ h' : AH, wra 20 h 125 i v = some h' ∧ ML h' hd ro ho (wh.set i.toNat v) tg li ∧ Fr YB h h' := by
  obtain ⟨a, b1, b2, b3, b4, b5, c1, c2, c3, c4, c5, l1, l2, l3, l4, l5⟩ := M
  exact ⟨_, wra_i (n := 125) c3 h0 (by omega) v, ⟨by rw [getN (by omega)]; exact a, b1, b2, b3, b4, b5, by rw [getN (by omega)]; exact c1, by rw [getN (by omega)]; exact c2, getS (gtl c3), by rw [getN (by omega)]; exact c4, by rw [getN (by omega)]; exact c5, l1, l2, by rw [List.length_set]; exact l3, l4, l5⟩, fr_set (by unfold YB; omega)⟩
theorem ML.wT (M : ML h hd ro ho wh tg li) {i : Int} (h0 : 0 ≤ i) (h1 : i < 20) (v : Int) : ∃ h' : AH, wra 20 h 126 i v = some h' ∧ ML h' hd ro ho wh (tg.set i.toNat v) li ∧ Fr YB h h' := by
  obtain ⟨a, b1, b2, b3, b4, b5, c1, c2, c3, c4, c5, l1, l2, l3, l4, l5⟩ := M
  exact ⟨_, wra_i (n := 126) c4 h0 (by omega) v, ⟨by rw [getN (by omega)]; exact a, b1, b2, b3, b4, b5, by rw [getN (by omega)]; exact c1, by rw [getN (by omega)]; exact c2, by rw [getN (by omega)]; exact c3, getS (gtl c4), by rw [getN (by omega)]; exact c5, l1, l2, l3, by rw [List.length_set]; exact l4, l5⟩, fr_set (by unfold YB; omega)⟩
theorem ML.wL (M : ML h hd ro ho wh tg li) {i : Int} (h0 : 0 ≤ i) (h1 : i < 5) (v : Int) : ∃ h' : AH, wra 20 h 127 i v = some h' ∧ ML h' hd ro ho wh tg (li.set i.toNat v) ∧ Fr YB h h' := by
  obtain ⟨a, b1, b2, b3, b4, b5, c1, c2, c3, c4, c5, l1, l2, l3, l4, l5⟩ := M
  exact ⟨_, wra_i (n := 127) c5 h0 (by omega) v, ⟨by rw [getN (by omega)]; exact a, b1, b2, b3, b4, b5, by rw [getN (by omega)]; exact c1, by rw [getN (by omega)]; exact c2, by rw [getN (by omega)]; exact c3, by rw [getN (by omega)]; exact c4, getS (gtl c5), l1, l2, l3, l4, by rw [List.length_set]; exact l5⟩, fr_set (by unfold YB; omega)⟩
end MLS
/-! What the boxes keep. -/
def ZM (Z : Nat → Bk) : Prop :=
  (∀ i, i < 5 → ((Z i).t = 0 ∨ (Z i).t = 1) ∧ 0 ≤ (Z i).s ∧ (Z i).s ≤ 4 ∧ (Z i).w.length = 4 ∧ (Z i).v.length = 4 ∧ ((Z i).t = 1 → (Z i).s ≤ (Z i).r ∧ (Z i).r ≤ 4) ∧ ((Z i).t = 0 → (Z i).s = 0) ∧ ((Z i).n = -1 ∨ (0 ≤ (Z i).n ∧ (Z i).n < 5))) ∧
  (∀ i, i < 5 → ∀ k : Nat, (k : Int) < (Z i).s → ((Z i).w.getD k 0 = 0 ∧ -9999 ≤ (Z i).v.getD k 0 ∧ (Z i).v.getD k 0 ≤ 9999) ∨ ((Z i).w.getD k 0 = 1 ∧ 0 ≤ (Z i).v.getD k 0 ∧ (Z i).v.getD k 0 < 10) ∨ ((Z i).w.getD k 0 = 2 ∧ 0 ≤ (Z i).v.getD k 0 ∧ (Z i).v.getD k 0 < 5 ∧ (Z ((Z i).v.getD k 0).toNat).n = (i : Int))) ∧
  (∀ j, j < 5 → (Z j).n ≠ -1 → ∃ k : Nat, (k : Int) < (Z (Z j).n.toNat).s ∧ (Z (Z j).n.toNat).w.getD k 0 = 2 ∧ (Z (Z j).n.toNat).v.getD k 0 = (j : Int)) ∧
  (∀ i, i < 5 → ∀ k l : Nat, (k : Int) < (Z i).s → (l : Int) < (Z i).s → (Z i).w.getD k 0 = 2 → (Z i).w.getD l 0 = 2 → (Z i).v.getD k 0 = (Z i).v.getD l 0 → k = l) ∧
  (∃ rk : Nat → Nat, ∀ j, j < 5 → (Z j).n ≠ -1 → rk (Z j).n.toNat < rk j)
def ZR (Z : Nat → Bk) (ro ho wh tg li : List Int) : Prop := ∀ i, i < 5 → ro.getD i 0 = (if (Z i).t = 1 then (Z i).r else -1) ∧ ho.getD i 0 = (Z i).s ∧ li.getD i 0 = (Z i).n ∧ ∀ k : Nat, (k : Int) < (Z i).s → wh.getD (4 * i + k) 0 = (Z i).w.getD k 0 ∧ tg.getD (4 * i + k) 0 = (Z i).v.getD k 0
theorem BxI.sp {h : AH} {le pl be to va br un ke la ma : Int} (H : BxI h) (hm : h[108]? = some (7, hM le pl be to va br un ke la ma)) : ∃ (Z : Nat → Bk) (ro ho wh tg li : List Int), XH h Z ∧ ML h (hM le pl be to va br un ke la ma) ro ho wh tg li ∧ ZM Z ∧ ZR Z ro ho wh tg li := by
  obtain ⟨a, b, r, s, t, n, w, v, ro, ho, wh, tg, li, c, d1, d2, d3, d4, d5, m, q⟩ := H
  exact ⟨fun i => mkK (r i) (s i) (t i) (n i) (w i) (v i), ro, ho, wh, tg, li, ⟨a, b, fun i hi => c i hi⟩, ⟨hm, rfl, rfl, rfl, rfl, rfl, d1, d2, d3, d4, d5, q.1, q.2.1, q.2.2.1, q.2.2.2.1, q.2.2.2.2.1⟩, m, q.2.2.2.2.2⟩
theorem BxI.jn {h : AH} {Z : Nat → Bk} {hd ro ho wh tg li : List Int} (X : XH h Z) (M : ML h hd ro ho wh tg li) (m : ZM Z) (q : ZR Z ro ho wh tg li) : BxI h :=
  ⟨X.1, X.2.1, fun i => (Z i).r, fun i => (Z i).s, fun i => (Z i).t, fun i => (Z i).n, fun i => (Z i).w, fun i => (Z i).v, ro, ho, wh, tg, li, fun i hi => X.2.2 i hi, M.c.1, M.c.2.1, M.c.2.2.1, M.c.2.2.2.1, M.c.2.2.2.2.1, m, ⟨M.c.2.2.2.2.2.1, M.c.2.2.2.2.2.2.1, M.c.2.2.2.2.2.2.2.1, M.c.2.2.2.2.2.2.2.2.1, M.c.2.2.2.2.2.2.2.2.2, q⟩⟩
theorem inv_bx {scr : List Int} {h h2 : AH} {le un ke ma : Int} {B C : Bo} (hl : h.length = 130) (hs : h[0]? = some (26, scr)) (ho : h[1]? = some (26, ovr)) (iS : SsI h un) (iM : MhI h le un ke ma) (iN : NoI h B C) (iT : ToI h) (iP : PaI h un) (iK : KeI h ke) (iX : TeI h le) (iF : FoI h) (iW : WoI h) (iI : SiI h ma) (T : Fr (fun j => (53 ≤ j ∧ j < 68) ∨ (123 ≤ j ∧ j < 130)) h h2) (w9 : LnI h2 128 20 24) (w10 : LnI h2 129 20 24) (x : BxI h2) : Inv scr h2 := by
  obtain ⟨w1, w2, w3, w4, w5, w6, w7, w8, -, -⟩ := iW
  exact ⟨T.len.trans hl, by rw [T.g 0 (by omega)]; exact hs, by rw [T.g 1 (by omega)]; exact ho, le, un, ke, ma, B, C, iS.fr T (by omega), iM.fr T (by omega), iN.fr T (fun j a b => by omega) (by omega), iT.fr T (fun j a b => by omega) (by omega), iP.fr T (by omega) (by omega) (fun j a b => by omega), iK.fr T (by omega) (by omega) (by omega) (fun j a b => by omega), iX.fr T (by omega) (by omega) (by omega), iF.fr T (fun j a b => by omega), ⟨w1.fr T (by omega), w2.fr T (by omega), w3.fr T (by omega), w4.fr T (by omega), w5.fr T (by omega), w6.fr T (by omega), w7.fr T (by omega), w8.fr T (by omega), w9, w10⟩, iI.fr T (fun j a b => by omega) (by omega), x⟩
