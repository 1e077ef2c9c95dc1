/-! alike: what it asks. -/
def smL (R : Nat → Nat → Bool) (a b : Bk) : Nat → Nat → Bool
  | 0, _ => true
  | n + 1, k => if (k : Int) < a.s then (if a.w.getD k 0 = b.w.getD k 0 then (if (if a.w.getD k 0 = 2 then R (a.v.getD k 0).toNat (b.v.getD k 0).toNat else decide (a.v.getD k 0 = b.v.getD k 0)) = true then smL R a b n (k + 1) else false) else false) else true
def sm (Z : Nat → Bk) : Nat → Nat → Nat → Bool
  | 0, _, _ => false
  | f + 1, p, q => if (Z p).s = (Z q).s then smL (sm Z f) (Z p) (Z q) 4 0 else false
def LoK (a b : Bk) (R : Nat → Nat → Prop) (k : Nat) : Prop := a.w.getD k 0 = b.w.getD k 0 ∧ (a.w.getD k 0 = 2 → R (a.v.getD k 0).toNat (b.v.getD k 0).toNat) ∧ (a.w.getD k 0 ≠ 2 → a.v.getD k 0 = b.v.getD k 0)
theorem smL_iff {R : Nat → Nat → Bool} {a b : Bk} (s4 : a.s ≤ 4) : ∀ (n k : Nat), n + k = 4 → (smL R a b n k = true ↔ ∀ j : Nat, k ≤ j → (j : Int) < a.s → LoK a b (fun p q => R p q = true) j) := by
  intro n
  induction n with
  | zero => intro k hk; exact ⟨fun _ j h1 h2 => by omega, fun _ => rfl⟩
  | succ n ih =>
    intro k hk
    have i := ih (k + 1) (by omega)
    show (if (k : Int) < a.s then (if a.w.getD k 0 = b.w.getD k 0 then (if (if a.w.getD k 0 = 2 then R (a.v.getD k 0).toNat (b.v.getD k 0).toNat else decide (a.v.getD k 0 = b.v.getD k 0)) = true then smL R a b n (k + 1) else false) else false) else true) = true ↔ _
    by_cases z : (k : Int) < a.s
    · rw [if_pos z]
      have H : LoK a b (fun p q => R p q = true) k ↔ a.w.getD k 0 = b.w.getD k 0 ∧ (if a.w.getD k 0 = 2 then R (a.v.getD k 0).toNat (b.v.getD k 0).toNat else decide (a.v.getD k 0 = b.v.getD k 0)) = true := by
        unfold LoK
        by_cases w : a.w.getD k 0 = 2
        · rw [if_pos w]; exact ⟨fun q => ⟨q.1, q.2.1 w⟩, fun q => ⟨q.1, fun _ => q.2, fun t => absurd w t⟩⟩
        · rw [if_neg w, decide_eq_true_eq]; exact ⟨fun q => ⟨q.1, q.2.2 w⟩, fun q => ⟨q.1, fun t => absurd t w, fun _ => q.2⟩⟩
      by_cases x : LoK a b (fun p q => R p q = true) k
      · obtain ⟨x1, x2⟩ := H.1 x
        rw [if_pos x1, if_pos x2, i]
        refine ⟨fun q j h1 h2 => ?_, fun q j h1 h2 => q j (by omega) h2⟩
        by_cases e : j = k
        · rw [e]; exact x
        · exact q j (by omega) h2
      · refine ⟨fun q => ?_, fun q => absurd (q k (by omega) z) x⟩
        exfalso
        apply x
        apply H.2
        by_cases x1 : a.w.getD k 0 = b.w.getD k 0
        · refine ⟨x1, ?_⟩
          rw [if_pos x1] at q
          by_cases x2 : (if a.w.getD k 0 = 2 then R (a.v.getD k 0).toNat (b.v.getD k 0).toNat else decide (a.v.getD k 0 = b.v.getD k 0)) = true
          · exact x2
          · rw [if_neg x2] at q; exact absurd q (by decide)
        · rw [if_neg x1] at q; exact absurd q (by decide)
    · rw [if_neg z]; exact ⟨fun _ j h1 h2 => by omega, fun _ => rfl⟩
section SM
variable {Z : Nat → Bk}
theorem sm_iff (m : ZM Z) {f p q : Nat} (hp : p < 5) : sm Z (f + 1) p q = true ↔ (Z p).s = (Z q).s ∧ ∀ j : Nat, (j : Int) < (Z p).s → LoK (Z p) (Z q) (fun p q => sm Z f p q = true) j := by
  have mp := m.1 p hp
  show (if (Z p).s = (Z q).s then smL (sm Z f) (Z p) (Z q) 4 0 else false) = true ↔ _
  by_cases z : (Z p).s = (Z q).s
  · rw [if_pos z, smL_iff (by omega) 4 0 (by omega)]
    exact ⟨fun t => ⟨z, fun j h => t j (by omega) h⟩, fun t j _ h => t.2 j h⟩
  · rw [if_neg z]; exact ⟨fun t => absurd t (by decide), fun t => absurd t.1 z⟩
/-- a box in a box is a box -/
theorem ZM.kid (m : ZM Z) {p j : Nat} (hp : p < 5) (hj : (j : Int) < (Z p).s) (w : (Z p).w.getD j 0 = 2) : 0 ≤ (Z p).v.getD j 0 ∧ (Z p).v.getD j 0 < 5 ∧ (Z ((Z p).v.getD j 0).toNat).n = (p : Int) := by
  rcases m.2.1 p hp j hj with a | a | a
  · omega
  · omega
  · exact a.2
theorem LoK.mono {a b : Bk} {R S : Nat → Nat → Prop} {k : Nat} (h : LoK a b R k) (z : a.w.getD k 0 = 2 → R (a.v.getD k 0).toNat (b.v.getD k 0).toNat → S (a.v.getD k 0).toNat (b.v.getD k 0).toNat) : LoK a b S k := ⟨h.1, fun t => z t (h.2.1 t), h.2.2⟩
theorem sm_mono (m : ZM Z) : ∀ (f p q : Nat), p < 5 → sm Z f p q = true → sm Z (f + 1) p q = true := by
  intro f
  induction f with
  | zero => intro p q _ h; exact absurd h (by unfold sm; decide)
  | succ f ih =>
    intro p q hp h
    rw [sm_iff m hp] at h ⊢
    refine ⟨h.1, fun j hj => (h.2 j hj).mono (fun w t => ih _ _ ?_ t)⟩
    have := m.kid hp hj w
    omega
theorem sm_le (m : ZM Z) {f p q : Nat} (hp : p < 5) (h : sm Z f p q = true) : ∀ g : Nat, sm Z (f + g) p q = true := by
  intro g
  induction g with
  | zero => exact h
  | succ g ih => exact sm_mono m _ p q hp ih
def Sme (Z : Nat → Bk) (p q : Nat) : Prop := ∃ f, sm Z f p q = true
theorem sme_iff (m : ZM Z) {p q : Nat} (hp : p < 5) : Sme Z p q ↔ (Z p).s = (Z q).s ∧ ∀ j : Nat, (j : Int) < (Z p).s → LoK (Z p) (Z q) (Sme Z) j := by
  refine ⟨fun h => ?_, fun h => ?_⟩
  · obtain ⟨f, h⟩ := h
    cases f with
    | zero => exact absurd h (by unfold sm; decide)
    | succ f =>
      rw [sm_iff m hp] at h
      exact ⟨h.1, fun j hj => (h.2 j hj).mono (fun _ t => ⟨f, t⟩)⟩
  · have mp := m.1 p hp
    have F : ∀ j : Nat, ∃ f : Nat, (j : Int) < (Z p).s → (Z p).w.getD j 0 = 2 → sm Z f ((Z p).v.getD j 0).toNat ((Z q).v.getD j 0).toNat = true := by
      intro j
      by_cases z : (j : Int) < (Z p).s ∧ (Z p).w.getD j 0 = 2
      · obtain ⟨f, e⟩ := (h.2 j z.1).2.1 z.2
        exact ⟨f, fun _ _ => e⟩
      · exact ⟨0, fun a b => absurd ⟨a, b⟩ z⟩
    obtain ⟨f0, e0⟩ := F 0
    obtain ⟨f1, e1⟩ := F 1
    obtain ⟨f2, e2⟩ := F 2
    obtain ⟨f3, e3⟩ := F 3
    refine ⟨f0 + f1 + f2 + f3 + 1, ?_⟩
    rw [sm_iff m hp]
    refine ⟨h.1, fun j hj => (h.2 j hj).mono (fun w _ => ?_)⟩
    have k := m.kid hp hj w
    have k5 : ((Z p).v.getD j 0).toNat < 5 := by omega
    have j4 : j = 0 ∨ j = 1 ∨ j = 2 ∨ j = 3 := by omega
    rcases j4 with rfl | rfl | rfl | rfl
    · have := sm_le m k5 (e0 hj w) (f1 + f2 + f3); rw [show f0 + (f1 + f2 + f3) = f0 + f1 + f2 + f3 by omega] at this; exact this
    · have := sm_le m k5 (e1 hj w) (f0 + f2 + f3); rw [show f1 + (f0 + f2 + f3) = f0 + f1 + f2 + f3 by omega] at this; exact this
    · have := sm_le m k5 (e2 hj w) (f0 + f1 + f3); rw [show f2 + (f0 + f1 + f3) = f0 + f1 + f2 + f3 by omega] at this; exact this
    · have := sm_le m k5 (e3 hj w) (f0 + f1 + f2); rw [show f3 + (f0 + f1 + f2) = f0 + f1 + f2 + f3 by omega] at this; exact this
theorem up_m1 : ∀ f : Nat, up Z f (-1) = -1 := by
  intro f
  cases f with
  | zero => rfl
  | succ f => show (if (-1 : Int) = -1 then (-1 : Int) else _) = -1; rw [if_pos rfl]
theorem up_ge : ∀ (f g : Nat) (a : Int), up Z f a = -1 → up Z (f + g) a = -1 := by
  intro f
  induction f with
  | zero => intro g a h; have h : a = -1 := h; rw [h]; exact up_m1 _
  | succ f ih =>
    intro g a h
    rw [show f + 1 + g = (f + g) + 1 by omega]
    show (if a = -1 then (-1 : Int) else up Z (f + g) (Z a.toNat).n) = -1
    by_cases z : a = -1
    · rw [if_pos z]
    · rw [if_neg z]
      refine ih g _ ?_
      have h : (if a = -1 then (-1 : Int) else up Z f (Z a.toNat).n) = -1 := h
      rw [if_neg z] at h
      exact h
theorem sm_six (m : ZM Z) : ∀ (f dep p q : Nat), p < 5 → up Z dep (p : Int) ≠ -1 → sm Z f p q = true → sm Z (6 - dep) p q = true := by
  intro f
  induction f with
  | zero => intro dep p q _ _ h; exact absurd h (by unfold sm; decide)
  | succ f ih =>
    intro dep p q hp u h
    have d4 : dep ≤ 4 := by
      by_cases z : dep ≤ 4
      · exact z
      · exfalso
        apply u
        have := up_ge 5 (dep - 5) (p : Int) (up5 m (by omega))
        rw [show 5 + (dep - 5) = dep by omega] at this
        exact this
    rw [show 6 - dep = (6 - (dep + 1)) + 1 by omega]
    rw [sm_iff m hp] at h ⊢
    refine ⟨h.1, fun j hj => (h.2 j hj).mono (fun w t => ?_)⟩
    have k := m.kid hp hj w
    refine ih (dep + 1) _ _ (by omega) ?_ t
    show (if (((Z p).v.getD j 0).toNat : Int) = -1 then (-1 : Int) else up Z dep (Z ((((Z p).v.getD j 0).toNat : Nat) : Int).toNat).n) ≠ -1
    rw [if_neg (by omega), Int.toNat_natCast, k.2.2]
    exact u
theorem sme_six (m : ZM Z) {p q : Nat} (hp : p < 5) : Sme Z p q ↔ sm Z 6 p q = true := by
  refine ⟨fun h => ?_, fun h => ⟨6, h⟩⟩
  obtain ⟨f, h⟩ := h
  exact sm_six m f 0 p q hp (by show (p : Int) ≠ -1; omega) h
/-- the class -/
theorem c_same {h : AH} {d : Nat} (X : XH h Z) (m : ZM Z) : ∀ (f p q : Nat), f ≤ 6 → p < 5 → q < 5 → cal (d + 2 * f + 2) m_Bs_holdSameFrom [(102, 51), (0, (p : Int)), (0, (q : Int)), (0, 6 - (f : Int))] h = some (bI (sm Z f p q), h) := by
  intro f
  induction f with
  | zero =>
    intro p q f6 hp hq
    rw [k_Bs_holdSameFrom]
    simp only [X.ra, X.rb hp, X.rb hq, X.f3 hp, X.f3 hq, Option.bind_some]
    rw [if_pos (show (5 : Int) < 6 - ((0 : Nat) : Int) by omega)]
    show (if (Z p).s = (Z q).s then _ else _) = some (0, h)
    split <;> rfl
  | succ f ih =>
    intro p q f6 hp hq
    have mp := m.1 p hp
    have mq := m.1 q hq
    rw [show d + 2 * (f + 1) + 2 = (d + 2 * f + 3) + 1 by omega, k_Bs_holdSameFrom]
    simp only [X.ra, X.rb hp, X.rb hq, X.f3 hp, X.f3 hq, Option.bind_some]
    show _ = some (bI (if (Z p).s = (Z q).s then smL (sm Z f) (Z p) (Z q) 4 0 else false), h)
    by_cases z : (Z p).s = (Z q).s
    · rw [if_pos z, if_pos z, if_neg (by omega)]
      have L : ∀ (n k : Nat), n + k = 4 → run (d + 2 * f + 3 + 1) m_Bs_holdSameFrom 39 [(102, 51), (0, (p : Int)), (0, (q : Int)), (0, 6 - ((f + 1 : Nat) : Int)), (101, ((53 + 3 * p : Nat) : Int)), (101, ((53 + 3 * q : Nat) : Int)), (0, (k : Int))] [] h = some (bI (smL (sm Z f) (Z p) (Z q) n k), h) := by
        intro n
        induction n with
        | zero => intro k nk; rw [k_Bs_holdSameFrom_39, X.f3 hp, Option.bind_some, if_neg (by omega)]; rfl
        | succ n ihn =>
          intro k nk
          rw [k_Bs_holdSameFrom_39, X.f3 hp, Option.bind_some]
          show _ = some (bI (if (k : Int) < (Z p).s then (if (Z p).w.getD k 0 = (Z q).w.getD k 0 then (if (if (Z p).w.getD k 0 = 2 then sm Z f ((Z p).v.getD k 0).toNat ((Z q).v.getD k 0).toNat else decide ((Z p).v.getD k 0 = (Z q).v.getD k 0)) = true then smL (sm Z f) (Z p) (Z q) n (k + 1) else false) else false) else true), h)
          by_cases ks : (k : Int) < (Z p).s
          rotate_left
          · rw [if_neg ks, if_neg ks]; rfl
          rw [if_pos ks, if_pos ks]
          have r1 := X.rw hp (k := (k : Int)) (by omega) (by omega)
          have r2 := X.rw hq (k := (k : Int)) (by omega) (by omega)
          have r3 := X.rv hp (k := (k : Int)) (by omega) (by omega)
          have r4 := X.rv hq (k := (k : Int)) (by omega) (by omega)
          rw [Int.toNat_natCast] at r1 r2 r3 r4
          simp only [X.p0 hp, X.p0 hq, X.p1 hp, X.p1 hq, r1, r2, r3, r4, Option.bind_some]
          by_cases w : (Z p).w.getD k 0 = (Z q).w.getD k 0
          rotate_left
          · rw [if_neg w, if_neg w]; rfl
          rw [if_pos w, if_pos w]
          have IS : cal (d + 2 * f + 3) m_Bs_isSame [(102, 51), (0, (Z p).w.getD k 0), (0, (Z p).v.getD k 0), (0, (Z q).v.getD k 0), (0, 6 - ((f + 1 : Nat) : Int))] h = some (bI (if (Z p).w.getD k 0 = 2 then sm Z f ((Z p).v.getD k 0).toNat ((Z q).v.getD k 0).toNat else decide ((Z p).v.getD k 0 = (Z q).v.getD k 0)), h) := by
            rw [k_Bs_isSame]
            by_cases t : (Z p).w.getD k 0 = 2
            · have kp := m.kid hp ks t
              have kq := m.kid hq (show (k : Int) < (Z q).s by omega) (w ▸ t)
              have h1 : cal (d + 2 * f + 2) m_Bs_has [(102, 51), (0, (Z p).v.getD k 0)] h = some (1, h) := by rw [c_bsHas, bI_t (by omega)]
              have h2 : cal (d + 2 * f + 2) m_Bs_has [(102, 51), (0, (Z q).v.getD k 0)] h = some (1, h) := by rw [c_bsHas, bI_t (by omega)]
              have h3 := ih ((Z p).v.getD k 0).toNat ((Z q).v.getD k 0).toNat (by omega) (by omega) (by omega)
              rw [show ((((Z p).v.getD k 0).toNat : Nat) : Int) = (Z p).v.getD k 0 by omega, show ((((Z q).v.getD k 0).toNat : Nat) : Int) = (Z q).v.getD k 0 by omega] at h3
              rw [if_pos t, if_pos t]
              simp only [h1, h2, Option.bind_some]
              rw [if_neg (by decide), if_neg (by decide), add_id (by omega) (by omega), show 6 - ((f + 1 : Nat) : Int) + 1 = 6 - (f : Int) by omega, h3, Option.bind_some]
              cases sm Z f ((Z p).v.getD k 0).toNat ((Z q).v.getD k 0).toNat <;> rfl
            · rw [if_neg t, if_neg t]
              by_cases u : (Z p).v.getD k 0 = (Z q).v.getD k 0
              · rw [if_pos u, bI_t u]
              · rw [if_neg u, bI_f u]
          rw [IS, Option.bind_some, add_id (by omega) (by omega), show (k : Int) + 1 = ((k + 1 : Nat) : Int) by omega]
          generalize (if (Z p).w.getD k 0 = 2 then sm Z f ((Z p).v.getD k 0).toNat ((Z q).v.getD k 0).toNat else decide ((Z p).v.getD k 0 = (Z q).v.getD k 0)) = bb
          cases bb with
          | false => rfl
          | true =>
            show (if (1 : Int) = 0 then _ else _) = _
            rw [if_neg (by decide), if_pos rfl]
            exact ihn (k + 1) (by omega)
      exact L 4 0 (by omega)
    · rw [if_neg z, if_neg z]; rfl
end SM
