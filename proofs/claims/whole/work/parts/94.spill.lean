/-! spill. -/
def Z1 (Z : Nat → Bk) : Prop := ∀ i, i < 5 → ((Z i).t = 0 ∨ (Z i).t = 1) ∧ 0 ≤ (Z i).s ∧ (Z i).s ≤ 4 ∧ (Z i).w.length = 4 ∧ (Z i).v.length = 4 ∧ ((Z i).t = 1 → (Z i).s ≤ (Z i).r ∧ (Z i).r ≤ 4) ∧ ((Z i).t = 0 → (Z i).s = 0) ∧ ((Z i).n = -1 ∨ (0 ≤ (Z i).n ∧ (Z i).n < 5))
section PUT1
variable {Z : Nat → Bk} {d i : Nat} {h : AH} {wt vl : Int}
theorem c_push1 (X : XH h Z) (m : Z1 Z) (hi : i < 5) (s4 : (Z i).s < 4) : ∃ h' : AH, cal (d + 1) m_Bx_push [(101, ((53 + 3 * i : Nat) : Int)), (0, wt), (0, vl)] h = some (0, h') ∧ XH h' (zu Z i (psh (Z i) wt vl)) ∧ Fr XB h h' := by
  have mi := m i hi
  obtain ⟨h1, a1, X1, T1⟩ := X.ww hi (k := (Z i).s) (by omega) (by omega) wt
  have f1 : rdf 1 h1 ((53 + 3 * i : Nat) : Int) 3 = some (Z i).s := by have := X1.f3 hi; rw [zu_s] at this; exact this
  obtain ⟨h2, a2, X2, T2⟩ := X1.wv hi (k := (Z i).s) (by omega) (by rw [zu_s]; show (Z i).s.toNat < (Z i).v.length; omega) vl
  have f2 : rdf 1 h2 ((53 + 3 * i : Nat) : Int) 3 = some (Z i).s := by have := X2.f3 hi; rw [zu_s, zu_s] at this; exact this
  obtain ⟨h3, a3, X3, T3⟩ := X2.ws hi ((Z i).s + 1)
  refine ⟨h3, ?_, X3.eq (fun j hj => ?_), (T1.tr T2).tr T3⟩
  · rw [k_Bx_push]
    simp only [X.f3 hi, X.p0 hi, a1, X1.p1 hi, f1, a2, f2, Option.bind_some]
    rw [if_pos s4, add_id (by omega) (by omega), a3]
    rfl
  · by_cases z : j = i
    · subst z; rw [zu_s, zu_s, zu_s, zu_s]; rfl
    · rw [zu_n z, zu_n z, zu_n z, zu_n z]
end PUT1
section LAY1
variable {Z : Nat → Bk} {i : Nat} {h : AH} {ro ho wh tg li : List Int}
theorem m_lay1 {hd : List Int} {wt vl : Int} (hi : i < 5) (M : ML h hd ro ho wh tg li) (m : Z1 Z) (R : ZR Z ro ho wh tg li) (s4 : (Z i).s < 4) : ∃ h3 : AH, (∀ K : AH → AR, ((rdr 7 h 108 26).bind (fun y2 => (rdr 7 h 108 25).bind (fun y3 => (rda 20 h y3 (i : Int)).bind (fun y4 => (wra 20 h y2 (a_add (a_mul 4 (i : Int)) y4) wt).bind (fun h5 => (rdr 7 h5 108 27).bind (fun y6 => (rdr 7 h5 108 25).bind (fun y7 => (rda 20 h5 y7 (i : Int)).bind (fun y8 => (wra 20 h5 y6 (a_add (a_mul 4 (i : Int)) y8) vl).bind (fun h9 => (rdr 7 h9 108 25).bind (fun y10 => (rda 20 h9 y10 (i : Int)).bind (fun y11 => (wra 20 h9 y10 (i : Int) (a_add y11 1)).bind (fun h12 => K h12)))))))))))) = K h3) ∧ ML h3 hd ro (ho.set i ((Z i).s + 1)) (wh.set (4 * i + (Z i).s.toNat) wt) (tg.set (4 * i + (Z i).s.toNat) vl) li ∧ Fr YB h h3 := by
  have s0 := (m i hi).2.1
  have rH : ∀ g wh tg, ML g hd ro ho wh tg li → rda 20 g 124 (i : Int) = some (Z i).s := by
    intro g wh tg M
    have := M.rH (i := (i : Int)) (by omega) (by omega)
    rw [Int.toNat_natCast, (R i hi).2.1] at this
    exact this
  obtain ⟨h1, a1, M1, T1⟩ := M.wW (i := 4 * (i : Int) + (Z i).s) (by omega) (by omega) wt
  obtain ⟨h2, a2, M2, T2⟩ := M1.wT (i := 4 * (i : Int) + (Z i).s) (by omega) (by omega) vl
  obtain ⟨h3, a3, M3, T3⟩ := M2.wH (i := (i : Int)) (by omega) (by omega) ((Z i).s + 1)
  rw [Int.toNat_natCast, show (4 * (i : Int) + (Z i).s).toNat = 4 * i + (Z i).s.toNat by omega] at M3
  refine ⟨h3, fun K => ?_, M3, (T1.tr T2).tr T3⟩
  simp only [M.a26, M.a25, rH h _ _ M, Option.bind_some]
  rw [mul_id (by omega) (by omega), add_id (x := 4 * (i : Int)) (by omega) (by omega), a1]
  simp only [M1.a27, M1.a25, rH h1 _ _ M1, Option.bind_some]
  rw [add_id (x := 4 * (i : Int)) (by omega) (by omega), a2]
  simp only [M2.a25, rH h2 _ _ M2, Option.bind_some]
  rw [add_id (x := (Z i).s) (by omega) (by omega), a3, Option.bind_some]
theorem ZR.push1 {wt vl : Int} (hi : i < 5) (m : Z1 Z) (R : ZR Z ro ho wh tg li) (s4 : (Z i).s < 4) (lh : ho.length = 5) (lw : wh.length = 20) (lt : tg.length = 20) : ZR (zu Z i (psh (Z i) wt vl)) ro (ho.set i ((Z i).s + 1)) (wh.set (4 * i + (Z i).s.toNat) wt) (tg.set (4 * i + (Z i).s.toNat) vl) li := by
  have mi := m i hi
  intro j hj
  have mj := m j hj
  rw [gds (by omega)]
  by_cases z : j = i
  · subst z
    rw [zu_s, if_pos rfl]
    refine ⟨(R j hj).1, rfl, (R j hj).2.2.1, fun k hk => ?_⟩
    have hk : (k : Int) < (Z j).s + 1 := hk
    by_cases e : k = (Z j).s.toNat
    · have nw := psh_new (wt := wt) (vl := vl) mi.2.1 s4 mi.2.2.2.1 mi.2.2.2.2.1
      rw [e, nw.1, nw.2, gds (by omega), gds (by omega), if_pos rfl, if_pos rfl]
      exact ⟨rfl, rfl⟩
    · have o := psh_old (wt := wt) (vl := vl) mi.2.1 (show (k : Int) < (Z j).s by omega)
      rw [o.1, o.2, gd_ne (by omega), gd_ne (by omega)]
      exact (R j hj).2.2.2 k (by omega)
  · rw [zu_n z, if_neg (show ¬ i = j from fun y => z y.symm)]
    refine ⟨(R j hj).1, (R j hj).2.1, (R j hj).2.2.1, fun k hk => ?_⟩
    rw [gd_ne (by omega), gd_ne (by omega)]
    exact (R j hj).2.2.2 k hk
end LAY1
/-- one thing more, poured over -/
def pour1 (Y : Nat → Bk) (i : Nat) (wt vl : Int) : Nat → Bk := if wt = 2 then zu (zu Y i (psh (Y i) wt vl)) vl.toNat (lay (zu Y i (psh (Y i) wt vl) vl.toNat) (i : Int)) else zu Y i (psh (Y i) wt vl)
def spS (Z : Nat → Bk) (i y : Nat) : Nat → Nat → Bk
  | 0 => zu (zu Z i (pop (Z i))) y (lay (zu Z i (pop (Z i)) y) (-1))
  | c + 1 => pour1 (spS Z i y c) i ((Z y).w.getD c 0) ((Z y).v.getD c 0)
def SpI (Z : Nat → Bk) (i y c : Nat) (Y : Nat → Bk) : Prop :=
  ((Y i).r = (Z i).r ∧ (Y i).t = (Z i).t ∧ (Y i).n = (Z i).n ∧ (Y i).s = (Z i).s - 1 + (c : Int) ∧ (Y i).w.length = 4 ∧ (Y i).v.length = 4) ∧
  (∀ k : Nat, (k : Int) < (Z i).s - 1 → (Y i).w.getD k 0 = (Z i).w.getD k 0 ∧ (Y i).v.getD k 0 = (Z i).v.getD k 0) ∧
  (∀ k : Nat, k < c → (Y i).w.getD (((Z i).s - 1).toNat + k) 0 = (Z y).w.getD k 0 ∧ (Y i).v.getD (((Z i).s - 1).toNat + k) 0 = (Z y).v.getD k 0) ∧
  (∀ j, j ≠ i → (Y j).r = (Z j).r ∧ (Y j).s = (Z j).s ∧ (Y j).t = (Z j).t ∧ (Y j).w = (Z j).w ∧ (Y j).v = (Z j).v) ∧
  (∀ j, j ≠ i → j ≠ y → (Y j).n = (Z j).n ∨ ((Z j).n = (y : Int) ∧ (Y j).n = (i : Int))) ∧ (Y y).n = -1 ∧
  (∀ k : Nat, k < c → (Z y).w.getD k 0 = 2 → (Y ((Z y).v.getD k 0).toNat).n = (i : Int))
/-- what the box on top is to the others -/
def Top (Z : Nat → Bk) (i y : Nat) : Prop := y ≠ i ∧ (Z y).n = (i : Int) ∧ ∀ k : Nat, (k : Int) < (Z y).s → (Z y).w.getD k 0 = 2 → ∃ x : Nat, x < 5 ∧ (Z y).v.getD k 0 = (x : Int) ∧ x ≠ i ∧ x ≠ y ∧ (Z x).n = (y : Int)
section SPILL
variable {Z : Nat → Bk} {i y : Nat}
theorem ZM.top (m : ZM Z) (hi : i < 5) (hy : y < 5) (s0 : 0 < (Z i).s) (w2 : (Z i).w.getD ((Z i).s - 1).toNat 0 = 2) (vy : (Z i).v.getD ((Z i).s - 1).toNat 0 = (y : Int)) : Top Z i y := by
  obtain ⟨m1, m2, m3, m4, rk, m5⟩ := m
  have ny : (Z y).n = (i : Int) := by
    rcases m2 i hi ((Z i).s - 1).toNat (by omega) with a | a | a
    · omega
    · omega
    · have := a.2.2.2
      rw [vy, Int.toNat_natCast] at this
      exact this
  have r1 := m5 y hy (by omega)
  rw [ny, Int.toNat_natCast] at r1
  refine ⟨fun e => by rw [e] at r1; omega, ny, fun k hk wk => ?_⟩
  rcases m2 y hy k hk with a | a | a
  · omega
  · omega
  · refine ⟨((Z y).v.getD k 0).toNat, by omega, by omega, fun e => ?_, fun e => ?_, a.2.2.2⟩
    · have r2 := m5 ((Z y).v.getD k 0).toNat (by omega) (by omega)
      rw [a.2.2.2, Int.toNat_natCast, e] at r2
      omega
    · have r2 := a.2.2.2
      rw [e, ny] at r2
      have : i = y := by omega
      rw [this] at r1
      omega
theorem spI_0 (m : ZM Z) (hi : i < 5) (T : Top Z i y) : SpI Z i y 0 (spS Z i y 0) := by
  have mi := m.1 i hi
  have e1 : spS Z i y 0 i = pop (Z i) := by show zu _ _ _ i = _; rw [zu_n (fun e => T.1 e.symm), zu_s]
  have e2 : spS Z i y 0 y = lay (Z y) (-1) := by show zu _ _ _ y = _; rw [zu_s, zu_n T.1]
  have e3 : ∀ j, j ≠ i → j ≠ y → spS Z i y 0 j = Z j := fun j a b => by show zu _ _ _ j = _; rw [zu_n b, zu_n a]
  refine ⟨?_, ?_, fun k hk => absurd hk (by omega), fun j hj => ?_, fun j a b => ?_, ?_, fun k hk => absurd hk (by omega)⟩
  · rw [e1]; exact ⟨rfl, rfl, rfl, by show (Z i).s - 1 = _; omega, mi.2.2.2.1, mi.2.2.2.2.1⟩
  · rw [e1]; exact fun k _ => ⟨rfl, rfl⟩
  · by_cases z : j = y
    · rw [z, e2]; exact ⟨rfl, rfl, rfl, rfl, rfl⟩
    · rw [e3 j hj z]; exact ⟨rfl, rfl, rfl, rfl, rfl⟩
  · rw [e3 j a b]; exact Or.inl rfl
  · rw [e2]; rfl
theorem spI_s (T : Top Z i y) {c : Nat} {Y : Nat → Bk} (s1 : 0 < (Z i).s) (s4 : (Z i).s - 1 + (c : Int) < 4) (hc : (c : Int) < (Z y).s) (S : SpI Z i y c Y) : SpI Z i y (c + 1) (pour1 Y i ((Z y).w.getD c 0) ((Z y).v.getD c 0)) := by
  obtain ⟨⟨a1, a2, a3, a4, a5, a6⟩, b, b', c1, d1, d2, d3⟩ := S
  generalize hw : (Z y).w.getD c 0 = wt
  generalize hv : (Z y).v.getD c 0 = vl
  have nw := psh_new (b := Y i) (wt := wt) (vl := vl) (by omega) (by omega) a5 a6
  have od : ∀ k : Nat, (k : Int) < (Y i).s → _ := fun k hk => psh_old (b := Y i) (wt := wt) (vl := vl) (by omega) hk
  have sn : (Y i).s.toNat = ((Z i).s - 1).toNat + c := by omega
  rw [sn] at nw
  have tp := T.2.2 c hc
  rw [hw, hv] at tp
  have ei : pour1 Y i wt vl i = psh (Y i) wt vl := by
    unfold pour1
    by_cases z : wt = 2
    · obtain ⟨x, x5, xe, xi, xy, xn⟩ := tp z
      rw [if_pos z, zu_n (by omega), zu_s]
    · rw [if_neg z, zu_s]
  have ej : ∀ j, j ≠ i → pour1 Y i wt vl j = if wt = 2 ∧ j = vl.toNat then lay (Y j) (i : Int) else Y j := by
    intro j hj
    unfold pour1
    by_cases z : wt = 2
    · rw [if_pos z]
      by_cases q : j = vl.toNat
      · rw [if_pos ⟨z, q⟩, q, zu_s, zu_n (by omega)]
      · rw [if_neg (fun x => q x.2), zu_n q, zu_n hj]
    · rw [if_neg z, if_neg (fun x => z x.1), zu_n hj]
  refine ⟨?_, fun k hk => ?_, fun k hk => ?_, fun j hj => ?_, fun j u w => ?_, ?_, fun k hk wk => ?_⟩
  · rw [ei]
    refine ⟨a1, a2, a3, ?_, ?_, ?_⟩
    · show (Y i).s + 1 = _; omega
    · show ((Y i).w.set _ _).length = 4; rw [List.length_set]; exact a5
    · show ((Y i).v.set _ _).length = 4; rw [List.length_set]; exact a6
  · rw [ei, (od k (by omega)).1, (od k (by omega)).2]; exact b k hk
  · rw [ei]
    by_cases z : k = c
    · rw [z, nw.1, nw.2, hw, hv]; exact ⟨rfl, rfl⟩
    · rw [(od _ (by omega)).1, (od _ (by omega)).2]; exact b' k (by omega)
  · rw [ej j hj]
    by_cases z : wt = 2 ∧ j = vl.toNat
    · rw [if_pos z]; exact c1 j hj
    · rw [if_neg z]; exact c1 j hj
  · rw [ej j u]
    by_cases z : wt = 2 ∧ j = vl.toNat
    · rw [if_pos z]
      obtain ⟨x, x5, xe, xi, xy, xn⟩ := tp z.1
      have : j = x := by omega
      rw [this]
      exact Or.inr ⟨xn, rfl⟩
    · rw [if_neg z]; exact d1 j u w
  · rw [ej y T.1, if_neg ?_]
    · exact d2
    · intro z
      obtain ⟨x, x5, xe, xi, xy, xn⟩ := tp z.1
      omega
  · obtain ⟨x, x5, xe, xi, xy, xn⟩ := T.2.2 k (by omega) wk
    have xt : ((Z y).v.getD k 0).toNat = x := by omega
    rw [xt, ej x xi]
    by_cases z : wt = 2 ∧ x = vl.toNat
    · rw [if_pos z]; rfl
    · rw [if_neg z]
      by_cases kc : k = c
      · subst kc; exact absurd ⟨by omega, by omega⟩ z
      · have := d3 k (by omega) wk
        rw [xt] at this
        exact this
theorem spI_a (m : ZM Z) (hi : i < 5) (T : Top Z i y) (s1 : 0 < (Z i).s) (s4 : (Z i).s - 1 + (Z y).s ≤ 4) : ∀ c : Nat, (c : Int) ≤ (Z y).s → SpI Z i y c (spS Z i y c) := by
  intro c
  induction c with
  | zero => intro _; exact spI_0 m hi T
  | succ c ih => intro hc; exact spI_s T s1 (by omega) (by omega) (ih (by omega))
theorem SpI.z1 {c : Nat} {Y : Nat → Bk} (S : SpI Z i y c Y) (m : ZM Z) (hi : i < 5) (t1 : (Z i).t = 1) (s1 : 0 < (Z i).s) (s4 : (Z i).s - 1 + (c : Int) ≤ (Z i).r) : Z1 Y := by
  intro j hj
  have mj := m.1 j hj
  have mi := m.1 i hi
  have r4 := (mi.2.2.2.2.2.1 t1).2
  obtain ⟨⟨a1, a2, a3, a4, a5, a6⟩, -, -, c1, d1, d2, -⟩ := S
  by_cases z : j = i
  · subst z
    rw [a1, a2, a3, a4]
    exact ⟨Or.inr t1, by omega, by omega, a5, a6, fun _ => by omega, fun q => by omega, mi.2.2.2.2.2.2.2⟩
  · obtain ⟨e1, e2, e3, e4, e5⟩ := c1 j z
    rw [e1, e2, e3, e4, e5]
    refine ⟨mj.1, mj.2.1, mj.2.2.1, mj.2.2.2.1, mj.2.2.2.2.1, mj.2.2.2.2.2.1, mj.2.2.2.2.2.2.1, ?_⟩
    by_cases w : j = y
    · subst w; exact Or.inl d2
    · rcases d1 j z w with q | q
      · rw [q]; exact mj.2.2.2.2.2.2.2
      · omega
def emp (b : Bk) : Bk := mkK b.r 0 b.t b.n b.w b.v
theorem SpI.zm {c : Nat} {Y : Nat → Bk} (S : SpI Z i y c Y) (m : ZM Z) (hi : i < 5) (hy : y < 5) (T : Top Z i y) (hc : (c : Int) = (Z y).s) (t1 : (Z i).t = 1) (w2 : (Z i).w.getD ((Z i).s - 1).toNat 0 = 2) (vy : (Z i).v.getD ((Z i).s - 1).toNat 0 = (y : Int)) (s1 : 0 < (Z i).s) (s4 : (Z i).s - 1 + (Z y).s ≤ (Z i).r) : ZM (zu Y y (emp (Y y))) := by
  have z1 := S.z1 m hi t1 s1 (by omega)
  obtain ⟨⟨a1, a2, a3, a4, a5, a6⟩, b, b', c1, d1, d2, d3⟩ := S
  obtain ⟨m1, m2, m3, m4, rk, m5⟩ := m
  have rki : rk i < rk y := by have := m5 y hy (by have := T.2.1; omega); rw [T.2.1, Int.toNat_natCast] at this; exact this
  have en : ∀ j, (zu Y y (emp (Y y)) j).n = (Y j).n ∧ (zu Y y (emp (Y y)) j).w = (Y j).w ∧ (zu Y y (emp (Y y)) j).v = (Y j).v ∧ (zu Y y (emp (Y y)) j).r = (Y j).r ∧ (zu Y y (emp (Y y)) j).t = (Y j).t ∧ (zu Y y (emp (Y y)) j).s = if j = y then 0 else (Y j).s := by
    intro j
    by_cases z : j = y
    · subst z; rw [zu_s, if_pos rfl]; exact ⟨rfl, rfl, rfl, rfl, rfl, rfl⟩
    · rw [zu_n z, if_neg z]; exact ⟨rfl, rfl, rfl, rfl, rfl, rfl⟩
  -- where each box lies now
  have nn : ∀ j, j < 5 → (Y j).n = if j = y then -1 else if (Z j).n = (y : Int) then (i : Int) else (Z j).n := by
    intro j hj
    by_cases z : j = y
    · subst z; rw [if_pos rfl]; exact d2
    · rw [if_neg z]
      by_cases w : (Z j).n = (y : Int)
      · rw [if_pos w]
        obtain ⟨k, k1, k2, k3⟩ := m3 j hj (by omega)
        rw [w, Int.toNat_natCast] at k1 k2 k3
        have := d3 k (by omega) k2
        rw [k3, Int.toNat_natCast] at this
        exact this
      · rw [if_neg w]
        by_cases u : j = i
        · subst u; exact a3
        · rcases d1 j u z with q | q
          · exact q
          · exact absurd q.1 w
  -- the things of the first box: from it, or poured
  have it : ∀ k : Nat, (k : Int) < (Y i).s → ((k : Int) < (Z i).s - 1 ∧ (Y i).w.getD k 0 = (Z i).w.getD k 0 ∧ (Y i).v.getD k 0 = (Z i).v.getD k 0) ∨ ∃ l : Nat, k = ((Z i).s - 1).toNat + l ∧ (l : Int) < (Z y).s ∧ (Y i).w.getD k 0 = (Z y).w.getD l 0 ∧ (Y i).v.getD k 0 = (Z y).v.getD l 0 := by
    intro k hk
    by_cases z : (k : Int) < (Z i).s - 1
    · exact Or.inl ⟨z, b k z⟩
    · have e : k = ((Z i).s - 1).toNat + (k - ((Z i).s - 1).toNat) := by omega
      have q := b' (k - ((Z i).s - 1).toNat) (by omega)
      rw [← e] at q
      exact Or.inr ⟨k - ((Z i).s - 1).toNat, e, by omega, q⟩
  refine ⟨fun j hj => ?_, fun j hj k hk => ?_, fun j hj z => ?_, fun j hj k l hk hl => ?_, rk, fun j hj z => ?_⟩
  · obtain ⟨e1, e2, e3, e4, e5, e6⟩ := en j
    have zj := z1 j hj
    rw [e1, e2, e3, e4, e5, e6]
    by_cases z : j = y
    · rw [if_pos z]
      exact ⟨zj.1, by omega, by omega, zj.2.2.2.1, zj.2.2.2.2.1, fun q => by have := zj.2.2.2.2.2.1 q; omega, fun _ => rfl, zj.2.2.2.2.2.2.2⟩
    · rw [if_neg z]; exact zj
  · obtain ⟨-, e2, e3, -, -, e6⟩ := en j
    rw [e6] at hk
    rw [e2, e3, (en _).1]
    by_cases z : j = y
    · rw [if_pos z] at hk; omega
    rw [if_neg z] at hk
    by_cases w : j = i
    · subst w
      rcases it k hk with ⟨k1, k2, k3⟩ | ⟨l, k0, k1, k2, k3⟩
      · rw [k2, k3]
        rcases m2 j hj k (by omega) with q | q | ⟨q1, q2, q3, q4⟩
        · exact Or.inl q
        · exact Or.inr (Or.inl q)
        · refine Or.inr (Or.inr ⟨q1, q2, q3, ?_⟩)
          rw [nn _ (by omega)]
          have ne : ((Z j).v.getD k 0).toNat ≠ y := fun x => by
            have := m4 j hj k ((Z j).s - 1).toNat (by omega) (by omega) q1 w2 (by rw [vy]; omega)
            omega
          rw [if_neg ne]
          by_cases u : (Z ((Z j).v.getD k 0).toNat).n = (y : Int)
          · rw [if_pos u]
          · rw [if_neg u]; exact q4
      · rw [k2, k3]
        rcases m2 y hy l k1 with q | q | ⟨q1, q2, q3, q4⟩
        · exact Or.inl q
        · exact Or.inr (Or.inl q)
        · refine Or.inr (Or.inr ⟨q1, q2, q3, ?_⟩)
          obtain ⟨x, x5, xe, xi, xy, xn⟩ := T.2.2 l k1 q1
          rw [xe, Int.toNat_natCast, nn _ x5, if_neg xy, if_pos xn]
    · obtain ⟨f1, f2, f3, f4, f5⟩ := c1 j w
      rw [f2] at hk
      rw [f4, f5]
      rcases m2 j hj k hk with q | q | ⟨q1, q2, q3, q4⟩
      · exact Or.inl q
      · exact Or.inr (Or.inl q)
      · refine Or.inr (Or.inr ⟨q1, q2, q3, ?_⟩)
        rw [nn _ (by omega)]
        have ne : ((Z j).v.getD k 0).toNat ≠ y := fun x => by rw [x, T.2.1] at q4; omega
        rw [if_neg ne, if_neg (by rw [q4]; omega)]
        exact q4
  · rw [(en j).1] at z ⊢
    have nj := nn j hj
    by_cases jy : j = y
    · rw [if_pos jy] at nj; exact absurd nj z
    rw [if_neg jy] at nj
    by_cases u : (Z j).n = (y : Int)
    · rw [if_pos u] at nj
      obtain ⟨k, k1, k2, k3⟩ := m3 j hj (by omega)
      rw [u, Int.toNat_natCast] at k1 k2 k3
      obtain ⟨-, e2, e3, -, -, e6⟩ := en i
      rw [nj, Int.toNat_natCast, e2, e3, e6, if_neg (fun x => T.1 x.symm), a4]
      refine ⟨((Z i).s - 1).toNat + k, by omega, ?_, ?_⟩
      · rw [(b' k (by omega)).1]; exact k2
      · rw [(b' k (by omega)).2]; exact k3
    · rw [if_neg u] at nj
      rw [nj] at z ⊢
      obtain ⟨k, k1, k2, k3⟩ := m3 j hj z
      have nr := (m1 j hj).2.2.2.2.2.2.2
      obtain ⟨-, e2, e3, -, -, e6⟩ := en (Z j).n.toNat
      rw [e2, e3, e6, if_neg (by omega)]
      by_cases w : (Z j).n.toNat = i
      · rw [w] at k1 k2 k3 ⊢
        have kk : (k : Int) < (Z i).s - 1 := by
          by_cases q : (k : Int) = (Z i).s - 1
          · rw [show k = ((Z i).s - 1).toNat by omega, vy] at k3
            omega
          · omega
        exact ⟨k, by omega, by rw [(b k kk).1]; exact k2, by rw [(b k kk).2]; exact k3⟩
      · obtain ⟨f1, f2, f3, f4, f5⟩ := c1 _ w
        rw [f2, f4, f5]
        exact ⟨k, k1, k2, k3⟩
  · obtain ⟨-, e2, e3, -, -, e6⟩ := en j
    rw [e6] at hk hl
    rw [e2, e3]
    by_cases z : j = y
    · rw [if_pos z] at hk; omega
    rw [if_neg z] at hk hl
    by_cases w : j = i
    · subst w
      intro p1 p2 p3
      rcases it k hk with ⟨k1, k2, k3⟩ | ⟨k', k0, k1, k2, k3⟩
      · rcases it l hl with ⟨l1, l2, l3⟩ | ⟨l', l0, l1, l2, l3⟩
        · rw [k2] at p1; rw [l2] at p2; rw [k3, l3] at p3
          exact m4 j hj k l (by omega) (by omega) p1 p2 p3
        · rw [k2] at p1; rw [l2] at p2; rw [k3, l3] at p3
          obtain ⟨x, x5, xe, xi, xy, xn⟩ := T.2.2 l' l1 p2
          rcases m2 j hj k (by omega) with q | q | ⟨q1, q2, q3, q4⟩
          · omega
          · omega
          · rw [p3, xe, Int.toNat_natCast, xn] at q4
            have := T.1
            omega
      · rcases it l hl with ⟨l1, l2, l3⟩ | ⟨l', l0, l1, l2, l3⟩
        · rw [k2] at p1; rw [l2] at p2; rw [k3, l3] at p3
          obtain ⟨x, x5, xe, xi, xy, xn⟩ := T.2.2 k' k1 p1
          rcases m2 j hj l (by omega) with q | q | ⟨q1, q2, q3, q4⟩
          · omega
          · omega
          · rw [← p3, xe, Int.toNat_natCast, xn] at q4
            have := T.1
            omega
        · rw [k2] at p1; rw [l2] at p2; rw [k3, l3] at p3
          have := m4 y hy k' l' k1 l1 p1 p2 p3
          omega
    · obtain ⟨f1, f2, f3, f4, f5⟩ := c1 j w
      rw [f2] at hk hl
      rw [f4, f5]
      exact m4 j hj k l hk hl
  · rw [(en j).1] at z ⊢
    have nj := nn j hj
    by_cases jy : j = y
    · rw [if_pos jy] at nj; exact absurd nj z
    rw [if_neg jy] at nj
    by_cases u : (Z j).n = (y : Int)
    · rw [if_pos u] at nj
      have := m5 j hj (by omega)
      rw [u, Int.toNat_natCast] at this
      rw [nj, Int.toNat_natCast]
      omega
    · rw [if_neg u] at nj
      rw [nj] at z ⊢
      exact m5 j hj z
end SPILL
