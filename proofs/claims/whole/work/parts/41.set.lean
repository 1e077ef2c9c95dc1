/-! Boards written. -/
def Bo.setS (B : Bo) (i v : Int) : Bo := mkB B.ks (B.ss.set i.toNat v) B.b0 B.b1 B.w B.t B.m
def Bo.setK (B : Bo) (i v : Int) : Bo := mkB (B.ks.set i.toNat v) B.ss B.b0 B.b1 B.w B.t B.m
def Bo.bn (B : Bo) (s : Int) : Int := if s = 0 then B.b0 else B.b1
def Bo.setBn (B : Bo) (s v : Int) : Bo := mkB B.ks B.ss (if s = 0 then v else B.b0) (if s = 0 then B.b1 else v) B.w B.t B.m
def Bo.setT (B : Bo) (v : Int) : Bo := mkB B.ks B.ss B.b0 B.b1 B.w v B.m
def Bo.setM (B : Bo) (v : Int) : Bo := mkB B.ks B.ss B.b0 B.b1 B.w B.t v
def Bo.setW (B : Bo) (v : Int) : Bo := mkB B.ks B.ss B.b0 B.b1 v B.t B.m
section SETB
variable {h : AH} {n m : Nat} {B C : Bo}
theorem BdH.lt (H : BdH h n B) : n + 3 < h.length := (List.getElem?_eq_some_iff.mp H.c3).1
theorem setB_len : (setB h n B).length = h.length := by simp [setB]
theorem setB_get (hl : n + 3 < h.length) (j : Nat) : (setB h n B)[j]? = if j = n then some (0, hd0 n B) else if j = n + 1 then some (20, B.ks) else if j = n + 2 then some (20, B.ss) else if j = n + 3 then some (20, [B.b0, B.b1]) else h[j]? := by
  unfold setB
  simp only [List.getElem?_set, List.length_set]
  by_cases a : j = n + 3
  · subst a; simp [hl]
  · by_cases b : j = n + 2
    · subst b; simp; omega
    · by_cases c : j = n + 1
      · subst c; simp; omega
      · by_cases e : j = n
        · subst e; simp; omega
        · simp [show ¬ n + 3 = j by omega, show ¬ n + 2 = j by omega, show ¬ n + 1 = j by omega, show ¬ n = j by omega, a, b, c, e]
theorem bdH_set (hl : n + 3 < h.length) : BdH (setB h n B) n B := by
  refine ⟨?_, ?_, ?_, ?_⟩ <;> rw [setB_get hl] <;> simp
theorem setB_self (H : BdH h n B) : setB h n B = h := by
  apply List.ext_getElem?
  intro j
  rw [setB_get H.lt]
  by_cases a : j = n
  · subst a; rw [if_pos rfl, H.c0]
  · by_cases b : j = n + 1
    · subst b; rw [if_neg a, if_pos rfl, H.c1]
    · by_cases c : j = n + 2
      · subst c; rw [if_neg a, if_neg b, if_pos rfl, H.c2]
      · by_cases e : j = n + 3
        · subst e; rw [if_neg a, if_neg b, if_neg c, if_pos rfl, H.c3]
        · rw [if_neg a, if_neg b, if_neg c, if_neg e]
theorem setB_setB (hl : n + 3 < h.length) : setB (setB h n B) n C = setB h n C := by
  apply List.ext_getElem?
  intro j
  rw [setB_get (by rw [setB_len]; exact hl), setB_get hl, setB_get hl]
  by_cases a : j = n <;> by_cases b : j = n + 1 <;> by_cases c : j = n + 2 <;> by_cases e : j = n + 3 <;> simp [a, b, c, e]
theorem setB_ne (hl : n + 3 < h.length) {j : Nat} (hj : j < n ∨ n + 4 ≤ j) : (setB h n B)[j]? = h[j]? := by
  rw [setB_get hl, if_neg (by omega), if_neg (by omega), if_neg (by omega), if_neg (by omega)]
theorem bdH_ne (hl : n + 3 < h.length) (H : BdH h m C) (hj : m + 4 ≤ n ∨ n + 4 ≤ m) : BdH (setB h n B) m C := by
  refine ⟨?_, ?_, ?_, ?_⟩ <;> rw [setB_ne hl (by omega)]
  · exact H.c0
  · exact H.c1
  · exact H.c2
  · exact H.c3
theorem set0 (H : BdH h n B) (xs : List Int) (e1 : C.ks = B.ks) (e2 : C.ss = B.ss) (e3 : C.b0 = B.b0) (e4 : C.b1 = B.b1) (e5 : xs = hd0 n C) : h.set n (0, xs) = setB h n C := by
  apply List.ext_getElem?
  intro j
  rw [setB_get H.lt, List.getElem?_set, e1, e2, e3, e4, e5]
  have := H.lt
  by_cases a : n = j
  · subst a; simp; omega
  · rw [if_neg a, if_neg (by omega)]
    by_cases b : j = n + 1
    · subst b; simp [H.c1]
    · by_cases c : j = n + 2
      · subst c; simp [H.c2]
      · by_cases e : j = n + 3
        · subst e; simp [H.c3]
        · simp [b, c, e]
theorem set1 (H : BdH h n B) (xs : List Int) (e0 : hd0 n C = hd0 n B) (e1 : xs = C.ks) (e2 : C.ss = B.ss) (e3 : C.b0 = B.b0) (e4 : C.b1 = B.b1) : h.set (n + 1) (20, xs) = setB h n C := by
  apply List.ext_getElem?
  intro j
  rw [setB_get H.lt, List.getElem?_set, e0, e1, e2, e3, e4]
  have := H.lt
  by_cases a : j = n
  · subst a; simp [H.c0]
  · by_cases b : j = n + 1
    · subst b; simp; omega
    · by_cases c : j = n + 2
      · subst c; simp [H.c2]
      · by_cases e : j = n + 3
        · subst e; simp [H.c3]
        · simp [a, b, c, e, show ¬ n + 1 = j by omega]
theorem set2 (H : BdH h n B) (xs : List Int) (e0 : hd0 n C = hd0 n B) (e1 : C.ks = B.ks) (e2 : xs = C.ss) (e3 : C.b0 = B.b0) (e4 : C.b1 = B.b1) : h.set (n + 2) (20, xs) = setB h n C := by
  apply List.ext_getElem?
  intro j
  rw [setB_get H.lt, List.getElem?_set, e0, e1, e2, e3, e4]
  have := H.lt
  by_cases a : j = n
  · subst a; simp [H.c0]
  · by_cases b : j = n + 1
    · subst b; simp [H.c1]
    · by_cases c : j = n + 2
      · subst c; simp; omega
      · by_cases e : j = n + 3
        · subst e; simp [H.c3]
        · simp [a, b, c, e, show ¬ n + 2 = j by omega]
theorem set3 (H : BdH h n B) (xs : List Int) (e0 : hd0 n C = hd0 n B) (e1 : C.ks = B.ks) (e2 : C.ss = B.ss) (e3 : xs = [C.b0, C.b1]) : h.set (n + 3) (20, xs) = setB h n C := by
  apply List.ext_getElem?
  intro j
  rw [setB_get H.lt, List.getElem?_set, e0, e1, e2, e3]
  have := H.lt
  by_cases a : j = n
  · subst a; simp [H.c0]
  · by_cases b : j = n + 1
    · subst b; simp [H.c1]
    · by_cases c : j = n + 2
      · subst c; simp [H.c2]
      · by_cases e : j = n + 3
        · subst e; simp; omega
        · simp [a, b, c, e, show ¬ n + 3 = j by omega]
theorem BdH.wS (H : BdH h n B) (O : BoOK B) {i : Int} (h0 : 0 ≤ i) (h1 : i < 10) (v : Int) : wra 20 h ((n + 2 : Nat) : Int) i v = some (setB h n (B.setS i v)) := by
  rw [wra_i H.c2 h0 (by rw [O.sl]; omega)]; exact congrArg some (set2 H _ rfl rfl rfl rfl rfl)
theorem BdH.wK (H : BdH h n B) (O : BoOK B) {i : Int} (h0 : 0 ≤ i) (h1 : i < 10) (v : Int) : wra 20 h ((n + 1 : Nat) : Int) i v = some (setB h n (B.setK i v)) := by
  rw [wra_i H.c1 h0 (by rw [O.kl]; omega)]; exact congrArg some (set1 H _ rfl rfl rfl rfl rfl)
theorem BdH.wB (H : BdH h n B) {s : Int} (hs : s = 0 ∨ s = 1) (v : Int) : wra 20 h ((n + 3 : Nat) : Int) s v = some (setB h n (B.setBn s v)) := by
  rcases hs with rfl | rfl
  · rw [wra_i H.c3 (by omega) (by simp)]; exact congrArg some (set3 H _ rfl rfl rfl rfl)
  · rw [wra_i H.c3 (by omega) (by simp)]; exact congrArg some (set3 H _ rfl rfl rfl rfl)
theorem BdH.rB (H : BdH h n B) {s : Int} (hs : s = 0 ∨ s = 1) : rda 20 h ((n + 3 : Nat) : Int) s = some (B.bn s) := by
  rcases hs with rfl | rfl
  · rw [rda_i H.c3 (by omega)]; rfl
  · rw [rda_i H.c3 (by omega)]; rfl
theorem BdH.wT (H : BdH h n B) (v : Int) : wrf 0 h (n : Int) 4 v = some (setB h n (B.setT v)) := by
  rw [wrf_n H.c0 (by show 4 < 6; omega)]; exact congrArg some (set0 H _ rfl rfl rfl rfl rfl)
theorem BdH.wM (H : BdH h n B) (v : Int) : wrf 0 h (n : Int) 5 v = some (setB h n (B.setM v)) := by
  rw [wrf_n H.c0 (by show 5 < 6; omega)]; exact congrArg some (set0 H _ rfl rfl rfl rfl rfl)
theorem BdH.wW (H : BdH h n B) (v : Int) : wrf 0 h (n : Int) 3 v = some (setB h n (B.setW v)) := by
  rw [wrf_n H.c0 (by show 3 < 6; omega)]; exact congrArg some (set0 H _ rfl rfl rfl rfl rfl)
end SETB
