/-! deep. -/
noncomputable def acS (e : Nat → Int) : Nat → Nat → Int → Int
  | 0, _, x => x
  | k + 1, c, x => acS e k (c + 1) (x + e c)
noncomputable def acO (e : Nat → Int) : Nat → Nat → Int → Int
  | 0, _, x => x
  | k + 1, c, x => acO e k (c + 1) (a_or x (e c))
noncomputable def cf (g : Nat → Int → Int) : Nat → Nat → Int → Int
  | 0, _, x => x
  | k + 1, c, x => cf g k (c + 1) (g c x)
noncomputable def eN (b : Bk) (k : Nat) : Int := if (k : Int) < b.s ∧ b.w.getD k 0 = 0 then 1 else 0
noncomputable def eV (b : Bk) (k : Nat) : Int := if (k : Int) < b.s ∧ b.w.getD k 0 = 0 then b.v.getD k 0 else 0
noncomputable def eB (b : Bk) (k : Nat) : Int := if (k : Int) < b.s ∧ b.w.getD k 0 = 1 then a_shl 1 (b.v.getD k 0) else 0
theorem acS_z {e : Nat → Int} : ∀ (k c : Nat) (x : Int), (∀ j, c ≤ j → e j = 0) → acS e k c x = x := by
  intro k
  induction k with
  | zero => intro c x _; rfl
  | succ k ih => intro c x z; show acS e k (c + 1) (x + e c) = x; rw [z c (by omega), ih _ _ (fun j hj => z j (by omega))]; omega
theorem acS_sh {e : Nat → Int} : ∀ (k c : Nat) (y x : Int), acS e k c (y + x) = y + acS e k c x := by
  intro k
  induction k with
  | zero => intro c y x; rfl
  | succ k ih => intro c y x; show acS e k (c + 1) (y + x + e c) = y + acS e k (c + 1) (x + e c); rw [show y + x + e c = y + (x + e c) by omega, ih]
theorem acO_z {e : Nat → Int} : ∀ (k c : Nat) (x : Int), a_or x 0 = x → (∀ j, c ≤ j → e j = 0) → acO e k c x = x := by
  intro k
  induction k with
  | zero => intro c x _ _; rfl
  | succ k ih => intro c x q z; show acO e k (c + 1) (a_or x (e c)) = x; rw [z c (by omega), q, ih _ _ q (fun j hj => z j (by omega))]
theorem acS_b {e : Nat → Int} {lo hi : Int} (B : ∀ j, lo ≤ e j ∧ e j ≤ hi) : ∀ (k c : Nat) (x : Int), x + lo * (k : Int) ≤ acS e k c x ∧ acS e k c x ≤ x + hi * (k : Int) := by
  intro k
  induction k with
  | zero => intro c x; show _ ≤ x ∧ x ≤ _; simp
  | succ k ih =>
    intro c x
    have b := B c
    have i := ih (c + 1) (x + e c)
    have e1 : lo * ((k + 1 : Nat) : Int) = lo * (k : Int) + lo := by rw [Int.natCast_add, Int.mul_add]; simp
    have e2 : hi * ((k + 1 : Nat) : Int) = hi * (k : Int) + hi := by rw [Int.natCast_add, Int.mul_add]; simp
    show _ ≤ acS e k (c + 1) (x + e c) ∧ acS e k (c + 1) (x + e c) ≤ _
    rw [e1, e2]
    omega
theorem eN_b (b : Bk) (k : Nat) : 0 ≤ eN b k ∧ eN b k ≤ 1 := by unfold eN; split <;> omega
theorem ZM.vb {Z : Nat → Bk} (m : ZM Z) {i : Nat} (hi : i < 5) (k : Nat) : -9999 ≤ eV (Z i) k ∧ eV (Z i) k ≤ 9999 := by
  unfold eV
  by_cases z : (k : Int) < (Z i).s ∧ (Z i).w.getD k 0 = 0
  · rw [if_pos z]
    rcases m.2.1 i hi k z.1 with a | a | a
    · exact a.2
    · omega
    · omega
  · rw [if_neg z]; omega
theorem e_z (b : Bk) {j : Nat} (h : b.s ≤ (j : Int)) : eN b j = 0 ∧ eV b j = 0 ∧ eB b j = 0 := ⟨if_neg (by omega), if_neg (by omega), if_neg (by omega)⟩
noncomputable def tN (b : Bk) : Int := acS (eN b) 4 0 0
noncomputable def tV (b : Bk) : Int := acS (eV b) 4 0 0
noncomputable def tB (b : Bk) : Int := acO (eB b) 4 0 0
section CL
variable {Z : Nat → Bk} {d i : Nat} {h : AH}
theorem c_num4 (X : XH h Z) (m : ZM Z) (hi : i < 5) : ∀ (k c : Nat) (x : Int), c + k = 4 → 0 ≤ x → x ≤ (c : Int) → run (d + 1) m_Bx_numbers 4 [(101, ((53 + 3 * i : Nat) : Int)), (0, x), (0, (c : Int))] [] h = some (acS (eN (Z i)) k c x, h) := by
  have mi := m.1 i hi
  intro k
  induction k with
  | zero => intro c x ck x0 x1; rw [k_Bx_numbers_4, X.f3 hi, Option.bind_some, if_neg (by omega)]; rfl
  | succ k ih =>
    intro c x ck x0 x1
    rw [k_Bx_numbers_4, X.f3 hi, Option.bind_some]
    by_cases z : (c : Int) < (Z i).s
    · have r := X.rw hi (k := (c : Int)) (by omega) (by omega)
      rw [Int.toNat_natCast] at r
      have b := eN_b (Z i) c
      rw [if_pos z, X.p0 hi, Option.bind_some, r, Option.bind_some, add_id (x := (c : Int)) (by omega) (by omega), show (c : Int) + 1 = ((c + 1 : Nat) : Int) by omega]
      have n := ih (c + 1) (x + eN (Z i) c) (by omega) (by omega) (by omega)
      by_cases w : (Z i).w.getD c 0 = 0
      · rw [if_pos w, add_id (by omega) (by omega)]
        rw [show eN (Z i) c = 1 from if_pos ⟨z, w⟩] at n
        rw [n]; show _ = some (acS _ k (c + 1) (x + eN (Z i) c), h); rw [show eN (Z i) c = 1 from if_pos ⟨z, w⟩]
      · rw [if_neg w, add_id (by omega) (by omega)]
        rw [show eN (Z i) c = 0 from if_neg (fun q => w q.2)] at n
        rw [n]; show _ = some (acS _ k (c + 1) (x + eN (Z i) c), h); rw [show eN (Z i) c = 0 from if_neg (fun q => w q.2)]
    · rw [if_neg z, acS_z _ _ _ (fun j hj => (e_z (Z i) (by omega)).1)]
theorem c_sum4 (X : XH h Z) (m : ZM Z) (hi : i < 5) : ∀ (k c : Nat) (x : Int), c + k = 4 → -9999 * (c : Int) ≤ x → x ≤ 9999 * (c : Int) → run (d + 1) m_Bx_sum 4 [(101, ((53 + 3 * i : Nat) : Int)), (0, x), (0, (c : Int))] [] h = some (acS (eV (Z i)) k c x, h) := by
  have mi := m.1 i hi
  intro k
  induction k with
  | zero => intro c x ck x0 x1; rw [k_Bx_sum_4, X.f3 hi, Option.bind_some, if_neg (by omega)]; rfl
  | succ k ih =>
    intro c x ck x0 x1
    rw [k_Bx_sum_4, X.f3 hi, Option.bind_some]
    by_cases z : (c : Int) < (Z i).s
    · have r := X.rw hi (k := (c : Int)) (by omega) (by omega)
      have r2 := X.rv hi (k := (c : Int)) (by omega) (by omega)
      rw [Int.toNat_natCast] at r r2
      have b := m.vb hi c
      rw [if_pos z, X.p0 hi, Option.bind_some, r, Option.bind_some, add_id (x := (c : Int)) (by omega) (by omega), show (c : Int) + 1 = ((c + 1 : Nat) : Int) by omega]
      have n := ih (c + 1) (x + eV (Z i) c) (by omega) (by omega) (by omega)
      by_cases w : (Z i).w.getD c 0 = 0
      · have ee : eV (Z i) c = (Z i).v.getD c 0 := if_pos ⟨z, w⟩
        rw [if_pos w, X.p1 hi, Option.bind_some, r2, Option.bind_some, ← ee, add_id (by omega) (by omega)]
        exact n
      · have ee : eV (Z i) c = 0 := if_neg (fun q => w q.2)
        rw [if_neg w, add_id (by omega) (by omega), show x + 0 = x + eV (Z i) c by rw [ee]]
        exact n
    · rw [if_neg z, acS_z _ _ _ (fun j hj => (e_z (Z i) (by omega)).2.1)]
theorem c_hb4 (X : XH h Z) (m : ZM Z) (hi : i < 5) : ∀ (k c : Nat) (x : Int), c + k = 4 → a_or x 0 = x → run (d + 1) m_Bx_houseBits 4 [(101, ((53 + 3 * i : Nat) : Int)), (0, x), (0, (c : Int))] [] h = some (acO (eB (Z i)) k c x, h) := by
  have mi := m.1 i hi
  intro k
  induction k with
  | zero => intro c x ck x0; rw [k_Bx_houseBits_4, X.f3 hi, Option.bind_some, if_neg (by omega)]; rfl
  | succ k ih =>
    intro c x ck x0
    rw [k_Bx_houseBits_4, X.f3 hi, Option.bind_some]
    by_cases z : (c : Int) < (Z i).s
    · have r := X.rw hi (k := (c : Int)) (by omega) (by omega)
      have r2 := X.rv hi (k := (c : Int)) (by omega) (by omega)
      rw [Int.toNat_natCast] at r r2
      rw [if_pos z, X.p0 hi, Option.bind_some, r, Option.bind_some, add_id (x := (c : Int)) (by omega) (by omega), show (c : Int) + 1 = ((c + 1 : Nat) : Int) by omega]
      have n := ih (c + 1) (a_or x (eB (Z i) c)) (by omega) (or_cn _ _)
      by_cases w : (Z i).w.getD c 0 = 1
      · have ee : eB (Z i) c = a_shl 1 ((Z i).v.getD c 0) := if_pos ⟨z, w⟩
        rw [if_pos w, X.p1 hi, Option.bind_some, r2, Option.bind_some, ← ee]
        exact n
      · have ee : eB (Z i) c = 0 := if_neg (fun q => w q.2)
        rw [if_neg w, show a_or x 0 = a_or x (eB (Z i) c) by rw [ee]]
        exact n
    · rw [if_neg z, acO_z _ _ _ x0 (fun j hj => (e_z (Z i) (by omega)).2.2)]
/-- one inner box more -/
noncomputable def gq (Z : Nat → Bk) (y q : Int) (c : Nat) (x : Int) : Int := if su Z 5 (c : Int) y 0 = -1 then x else if q = 0 then x + tN (Z c) else if q = 1 then x + tV (Z c) else if q = 2 then a_or x (tB (Z c)) else if q = 3 then (if 0 < su Z 5 (c : Int) y 0 then a_or x (a_shl 1 (c : Int)) else x) else if x < su Z 5 (c : Int) y 0 then su Z 5 (c : Int) y 0 else x
theorem tN_b (b : Bk) : 0 ≤ tN b ∧ tN b ≤ 4 := by
  have := acS_b (eN_b b) 4 0 0
  unfold tN; omega
theorem ZM.tb (m : ZM Z) (hi : i < 5) : -40000 ≤ tV (Z i) ∧ tV (Z i) ≤ 40000 := by
  have := acS_b (m.vb hi) 4 0 0
  unfold tV; omega
theorem c_thr {y q : Int} (q0 : 0 ≤ q) (q4 : q ≤ 4) (X : XH h Z) (m : ZM Z) : ∀ (k c : Nat) (x : Int) (v : AV), c + k = 5 → (q = 0 → 0 ≤ x ∧ x ≤ 4 * (c : Int)) → (q = 1 → 50000 - 40000 * (c : Int) ≤ x ∧ x ≤ 50000 + 40000 * (c : Int)) → run (d + 3) m_Bs_throughout 15 [(102, 51), (0, y), (0, q), (0, x), (0, (c : Int)), v] [] h = some (cf (gq Z y q) k c x, h) := by
  intro k
  induction k with
  | zero => intro c x v ck _ _; rw [k_Bs_throughout_15, if_neg (by omega)]; rfl
  | succ k ih =>
    intro c x v ck b0 b1
    have hc : c < 5 := by omega
    have s1 : cal (d + 2) m_Bs_stepsUp [(102, 51), (0, (c : Int)), (0, y)] h = some (su Z 5 (c : Int) y 0, h) := c_stepsUp X m (by omega)
    have tn := tN_b (Z c)
    have tv := m.tb hc
    rw [k_Bs_throughout_15, if_pos (by omega), s1, Option.bind_some, add_id (x := (c : Int)) (by omega) (by omega), show (c : Int) + 1 = ((c + 1 : Nat) : Int) by omega]
    show _ = some (cf (gq Z y q) k (c + 1) (gq Z y q c x), h)
    have G : (q = 0 → 0 ≤ gq Z y q c x ∧ gq Z y q c x ≤ 4 * ((c + 1 : Nat) : Int)) ∧ (q = 1 → 50000 - 40000 * ((c + 1 : Nat) : Int) ≤ gq Z y q c x ∧ gq Z y q c x ≤ 50000 + 40000 * ((c + 1 : Nat) : Int)) := by
      unfold gq
      refine ⟨fun z => ?_, fun z => ?_⟩
      · have := b0 z
        by_cases w : su Z 5 (c : Int) y 0 = -1
        · rw [if_pos w]; omega
        · rw [if_neg w, if_pos z]; omega
      · have := b1 z
        by_cases w : su Z 5 (c : Int) y 0 = -1
        · rw [if_pos w]; omega
        · rw [if_neg w, if_neg (by omega), if_pos z]; omega
    by_cases w : su Z 5 (c : Int) y 0 = -1
    · have e : gq Z y q c x = x := if_pos w
      rw [e] at G ⊢
      rw [if_pos w]
      exact ih (c + 1) x _ (by omega) G.1 G.2
    · have W : cal (d + 2) m_Bs_withInner [(102, 51), (0, x), (0, (c : Int)), (0, su Z 5 (c : Int) y 0), (0, q)] h = some (gq Z y q c x, h) := by
        have n1 : cal (d + 1) m_Bx_numbers [(101, ((53 + 3 * c : Nat) : Int))] h = some (tN (Z c), h) := by rw [k_Bx_numbers]; exact c_num4 X m hc 4 0 0 (by omega) (by omega) (by omega)
        have n2 : cal (d + 1) m_Bx_sum [(101, ((53 + 3 * c : Nat) : Int))] h = some (tV (Z c), h) := by rw [k_Bx_sum]; exact c_sum4 X m hc 4 0 0 (by omega) (by omega) (by omega)
        have n3 : cal (d + 1) m_Bx_houseBits [(101, ((53 + 3 * c : Nat) : Int))] h = some (tB (Z c), h) := by rw [k_Bx_houseBits]; exact c_hb4 X m hc 4 0 0 (by omega) or_00
        rw [k_Bs_withInner]
        simp only [X.ra, X.rb hc, n1, n2, n3, Option.bind_some, ifs, max_id]
        unfold gq
        rw [if_neg w]
        by_cases z0 : q = 0
        · have := b0 z0
          rw [if_pos z0, if_pos z0, add_id (by omega) (by omega)]
        rw [if_neg z0, if_neg z0]
        by_cases z1 : q = 1
        · have := b1 z1
          rw [if_pos z1, if_pos z1, add_id (by omega) (by omega)]
        rw [if_neg z1, if_neg z1]
      rw [if_neg w, W, Option.bind_some]
      exact ih (c + 1) _ _ (by omega) G.1 G.2
end CL
