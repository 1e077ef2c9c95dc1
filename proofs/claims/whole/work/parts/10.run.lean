/-! Runs of the abstract machine: by fuel, their limit, its fixed point, and the limit unfolded up to given places. -/
def fetM (m pc : Nat) : Option (Instr × LK × List (Int × Nat)) := match nthL am_ms m with
  | none => none
  | some q => fetL q.1 pc
def entM (m : Nat) (as : List AV) : List AV := match nthL am_ms m with
  | none => []
  | some q => padL q.2 (argL as)
/-- the arguments fit the method's locals -/
def entOK (m : Nat) (as : List AV) : Bool := match nthL am_ms m with
  | none => false
  | some q => Nat.ble (argL as).length q.2
noncomputable def stepM (self : Nat → List AV → List AV → AH → AR) (call : Nat → List AV → AH → AR) (m pc : Nat) (ls st : List AV) (h : AH) : AR := match fetM m pc with
  | none => none
  | some q => stepF self call q.1 q.2.1 q.2.2 pc ls st h
noncomputable def exec : Nat → Nat → Nat → Nat → List AV → List AV → AH → AR
  | 0, _, _, _, _, _, _ => none
  | f + 1, d, m, pc, ls, st, h => stepM (fun pc ls st h => exec f d m pc ls st h) (fun m' as h => match d with
    | 0 => none
    | d' + 1 => cond (entOK m' as) (exec f d' m' 0 (entM m' as) [] h) none) m pc ls st h
def LimR (F : Nat → AR) (g : AR) : Prop := (∀ f f' r, f ≤ f' → F f = some r → F f' = some r) ∧ ∀ r, g = some r ↔ ∃ f, F f = some r
theorem lim_const (c : AR) : LimR (fun _ => c) c := ⟨fun _ _ _ _ h => h, fun _ => ⟨fun h => ⟨0, h⟩, fun ⟨_, h⟩ => h⟩⟩
theorem lim_bind {α : Type} (p : Option α) {F : Nat → α → AR} {g : α → AR} (h : ∀ a, LimR (fun f => F f a) (g a)) : LimR (fun f => p.bind (F f)) (p.bind g) := by
  cases p with
  | none => exact lim_const none
  | some a => exact h a
theorem lim_call {C : Nat → AR} {c : AR} {K : Nat → (Int × AH) → AR} {k : (Int × AH) → AR} (hC : LimR C c) (hK : ∀ q, LimR (fun f => K f q) (k q)) : LimR (fun f => (C f).bind (K f)) (c.bind k) := by
  refine ⟨?_, ?_⟩
  · intro f f' r hf h
    simp only [Option.bind_eq_some_iff] at h ⊢
    obtain ⟨q, h1, h2⟩ := h
    exact ⟨q, hC.1 f f' q hf h1, (hK q).1 f f' r hf h2⟩
  · intro r
    simp only [Option.bind_eq_some_iff]
    constructor
    · rintro ⟨q, h1, h2⟩
      obtain ⟨f1, h1⟩ := (hC.2 q).mp h1
      obtain ⟨f2, h2⟩ := ((hK q).2 r).mp h2
      exact ⟨f1 + f2, q, hC.1 _ _ _ (Nat.le_add_right _ _) h1, (hK q).1 _ _ _ (Nat.le_add_left _ _) h2⟩
    · rintro ⟨f, q, h1, h2⟩
      exact ⟨q, (hC.2 q).mpr ⟨f, h1⟩, ((hK q).2 r).mpr ⟨f, h2⟩⟩
theorem lim_ite {c : Prop} [Decidable c] {A B : Nat → AR} {a b : AR} (hA : LimR A a) (hB : LimR B b) : LimR (fun f => if c then A f else B f) (if c then a else b) := by
  by_cases h : c
  · simp only [h, if_true]; exact hA
  · simp only [h, if_false]; exact hB
theorem lim_cond {c : Bool} {A B : Nat → AR} {a b : AR} (hA : LimR A a) (hB : LimR B b) : LimR (fun f => cond c (A f) (B f)) (cond c a b) := by
  cases c
  · exact hB
  · exact hA
theorem lim_p1 {t : Nat} {st : List AV} {K : Nat → Int → List AV → AR} {k : Int → List AV → AR} (h : ∀ x st, LimR (fun f => K f x st) (k x st)) : LimR (fun f => am_p1 t st (K f)) (am_p1 t st k) := by
  unfold am_p1
  cases st with
  | nil => exact lim_const none
  | cons v r => exact lim_cond (h _ _) (lim_const none)
theorem lim_ld {t i : Nat} {ls st : List AV} {K : Nat → List AV → AR} {k : List AV → AR} (h : ∀ st, LimR (fun f => K f st) (k st)) : LimR (fun f => am_ld t i ls st (K f)) (am_ld t i ls st k) := by
  unfold am_ld
  cases nthL ls i with
  | none => exact lim_const none
  | some v => exact lim_cond (h _) (lim_const none)
theorem lim_lda {i : Nat} {ls st : List AV} {K : Nat → List AV → AR} {k : List AV → AR} (h : ∀ st, LimR (fun f => K f st) (k st)) : LimR (fun f => am_lda i ls st (K f)) (am_lda i ls st k) := by
  unfold am_lda
  cases nthL ls i with
  | none => exact lim_const none
  | some v => exact lim_cond (h _) (lim_const none)
theorem lim_ldl {i : Nat} {ls st : List AV} {K : Nat → List AV → AR} {k : List AV → AR} (h : ∀ st, LimR (fun f => K f st) (k st)) : LimR (fun f => am_ldl i ls st (K f)) (am_ldl i ls st k) := by
  unfold am_ldl
  cases nthL ls i with
  | none => exact lim_const none
  | some v =>
    cases nthL ls (i + 1) with
    | none => exact lim_const none
    | some u => exact lim_cond (h _) (lim_const none)
theorem lim_st {t i : Nat} {ls st : List AV} {K : Nat → List AV → List AV → AR} {k : List AV → List AV → AR} (h : ∀ ls st, LimR (fun f => K f ls st) (k ls st)) : LimR (fun f => am_st t i ls st (K f)) (am_st t i ls st k) := by
  unfold am_st
  cases st with
  | nil => exact lim_const none
  | cons v r => exact lim_cond (h _ _) (lim_const none)
theorem lim_sta {i : Nat} {ls st : List AV} {K : Nat → List AV → List AV → AR} {k : List AV → List AV → AR} (h : ∀ ls st, LimR (fun f => K f ls st) (k ls st)) : LimR (fun f => am_sta i ls st (K f)) (am_sta i ls st k) := by
  unfold am_sta
  cases st with
  | nil => exact lim_const none
  | cons v r => exact lim_cond (h _ _) (lim_const none)
theorem lim_stl {i : Nat} {ls st : List AV} {K : Nat → List AV → List AV → AR} {k : List AV → List AV → AR} (h : ∀ ls st, LimR (fun f => K f ls st) (k ls st)) : LimR (fun f => am_stl i ls st (K f)) (am_stl i ls st k) := by
  unfold am_stl
  cases st with
  | nil => exact lim_const none
  | cons v r => exact lim_cond (h _ _) (lim_const none)
theorem lim_b2 {g : Int → Int → Int} {st : List AV} {K : Nat → List AV → AR} {k : List AV → AR} (h : ∀ st, LimR (fun f => K f st) (k st)) : LimR (fun f => am_b2 g st (K f)) (am_b2 g st k) := lim_p1 fun _ _ => lim_p1 fun _ _ => h _
theorem lim_l2 {g : Int → Int → Int} {st : List AV} {K : Nat → List AV → AR} {k : List AV → AR} (h : ∀ st, LimR (fun f => K f st) (k st)) : LimR (fun f => am_l2 g st (K f)) (am_l2 g st k) := lim_p1 fun _ _ => lim_p1 fun _ _ => h _
theorem lim_br {c : ClassFile.Cond} {x y : Int} {A B : Nat → AR} {a b : AR} (hA : LimR A a) (hB : LimR B b) : LimR (fun f => am_br c x y (A f) (B f)) (am_br c x y a b) := by
  cases c <;> first | exact lim_ite hA hB | exact lim_ite hB hA
theorem lim_sw {K : Nat → Nat → AR} {k : Nat → AR} (h : ∀ t, LimR (fun f => K f t) (k t)) (x : Int) (prs : List (Int × Nat)) (d : Nat) : LimR (fun f => am_sw (K f) x prs d) (am_sw k x prs d) := by
  induction prs with
  | nil => exact h d
  | cons p r ih => exact lim_ite (h _) ih
theorem lim_cl {C : Nat → Nat → List AV → AH → AR} {c : Nat → List AV → AH → AR} (hC : ∀ m as h, LimR (fun f => C f m as h) (c m as h)) {lk : LK} {st : List AV} {h : AH} {K : Nat → List AV → AH → AR} {k : List AV → AH → AR} (hK : ∀ st h, LimR (fun f => K f st h) (k st h)) : LimR (fun f => am_call (C f) lk st h (K f)) (am_call c lk st h k) := by
  unfold am_call
  cases am_pop lk.2.1 st [] with
  | none => exact lim_const none
  | some ar => exact lim_cond (lim_call (hC _ _ _) (fun q => lim_cond (hK _ _) (hK _ _))) (lim_const none)
set_option maxHeartbeats 4000000 in
theorem lim_step {S : Nat → Nat → List AV → List AV → AH → AR} {s : Nat → List AV → List AV → AH → AR} {C : Nat → Nat → List AV → AH → AR} {c : Nat → List AV → AH → AR} (hS : ∀ pc ls st h, LimR (fun f => S f pc ls st h) (s pc ls st h)) (hC : ∀ m as h, LimR (fun f => C f m as h) (c m as h))
    (ins : Instr) (lk : LK) (prs : List (Int × Nat)) (pc : Nat) (ls st : List AV) (h : AH) : LimR (fun f => stepF (S f) (C f) ins lk prs pc ls st h) (stepF s c ins lk prs pc ls st h) := by
  cases ins <;> dsimp only [stepF] <;> (try exact lim_const _) <;> (try (rcases st with _ | ⟨v, _ | ⟨u, r⟩⟩ <;> first | exact lim_const none | exact lim_cond (lim_const none) (hS _ _ _ _) | fail)) <;> repeat' first
    | exact lim_const _
    | exact hS _ _ _ _
    | refine lim_cond ?_ ?_
    | refine lim_p1 (fun _ _ => ?_)
    | refine lim_ld (fun _ => ?_)
    | refine lim_lda (fun _ => ?_)
    | refine lim_ldl (fun _ => ?_)
    | refine lim_st (fun _ _ => ?_)
    | refine lim_sta (fun _ _ => ?_)
    | refine lim_stl (fun _ _ => ?_)
    | refine lim_b2 (fun _ => ?_)
    | refine lim_l2 (fun _ => ?_)
    | refine lim_br ?_ ?_
    | refine lim_sw (fun _ => ?_) _ _ _
    | refine lim_cl hC (fun _ _ => ?_)
    | refine lim_bind _ (fun _ => ?_)
    | refine lim_ite ?_ ?_
theorem lim_stepM {S : Nat → Nat → List AV → List AV → AH → AR} {s : Nat → List AV → List AV → AH → AR} {C : Nat → Nat → List AV → AH → AR} {c : Nat → List AV → AH → AR} (hS : ∀ pc ls st h, LimR (fun f => S f pc ls st h) (s pc ls st h)) (hC : ∀ m as h, LimR (fun f => C f m as h) (c m as h))
    (m pc : Nat) (ls st : List AV) (h : AH) : LimR (fun f => stepM (S f) (C f) m pc ls st h) (stepM s c m pc ls st h) := by
  unfold stepM
  cases fetM m pc with
  | none => exact lim_const none
  | some q => exact lim_step hS hC _ _ _ _ _ _ _
theorem stepM_mono {s s' : Nat → List AV → List AV → AH → AR} {c c' : Nat → List AV → AH → AR} (hS : ∀ pc ls st h r, s pc ls st h = some r → s' pc ls st h = some r) (hC : ∀ m as h r, c m as h = some r → c' m as h = some r)
    (m pc : Nat) (ls st : List AV) (h : AH) (r : Int × AH) (e : stepM s c m pc ls st h = some r) : stepM s' c' m pc ls st h = some r := by
  have L := lim_stepM (S := fun f => match f with | 0 => s | _ + 1 => s') (s := s') (C := fun f => match f with | 0 => c | _ + 1 => c') (c := c') ?_ ?_ m pc ls st h
  · exact L.1 0 1 r (Nat.zero_le 1) e
  · intro pc ls st h
    refine ⟨?_, ?_⟩
    · intro f f' r hf h1
      match f, f', hf, h1 with
      | 0, 0, _, h1 => exact h1
      | 0, _ + 1, _, h1 => exact hS _ _ _ _ _ h1
      | _ + 1, _ + 1, _, h1 => exact h1
      | _ + 1, 0, h0, _ => exact absurd h0 (by omega)
    · intro r
      constructor
      · intro h1; exact ⟨1, h1⟩
      · rintro ⟨f, h1⟩
        match f, h1 with
        | 0, h1 => exact hS _ _ _ _ _ h1
        | _ + 1, h1 => exact h1
  · intro m as h
    refine ⟨?_, ?_⟩
    · intro f f' r hf h1
      match f, f', hf, h1 with
      | 0, 0, _, h1 => exact h1
      | 0, _ + 1, _, h1 => exact hC _ _ _ _ h1
      | _ + 1, _ + 1, _, h1 => exact h1
      | _ + 1, 0, h0, _ => exact absurd h0 (by omega)
    · intro r
      constructor
      · intro h1; exact ⟨1, h1⟩
      · rintro ⟨f, h1⟩
        match f, h1 with
        | 0, h1 => exact hC _ _ _ _ h1
        | _ + 1, h1 => exact h1
theorem exec_succ (f : Nat) : ∀ d m pc ls st h r, exec f d m pc ls st h = some r → exec (f + 1) d m pc ls st h = some r := by
  induction f with
  | zero => intro d m pc ls st h r e; cases e
  | succ f ih =>
    intro d m pc ls st h r e
    cases d with
    | zero => exact stepM_mono (s := fun pc ls st h => exec f 0 m pc ls st h) (c := fun m' as h => none) (fun pc ls st h r e => ih _ _ _ _ _ _ _ e) (fun m' as h r e => e) m pc ls st h r e
    | succ d => exact stepM_mono (s := fun pc ls st h => exec f (d + 1) m pc ls st h) (c := fun m' as h => cond (entOK m' as) (exec f d m' 0 (entM m' as) [] h) none) (fun pc ls st h r e => ih _ _ _ _ _ _ _ e) (fun m' as h r e => by
      revert e
      show cond (entOK m' as) (exec f d m' 0 (entM m' as) [] h) none = some r → cond (entOK m' as) (exec (f + 1) d m' 0 (entM m' as) [] h) none = some r
      cases entOK m' as with
      | false => exact fun e => e
      | true => exact fun e => ih _ _ _ _ _ _ _ e) m pc ls st h r e
theorem exec_mono {f f' d m pc : Nat} {ls st : List AV} {h : AH} {r : Int × AH} (hf : f ≤ f') (e : exec f d m pc ls st h = some r) : exec f' d m pc ls st h = some r := by
  induction hf with
  | refl => exact e
  | step _ ih => exact exec_succ _ _ _ _ _ _ _ _ ih
noncomputable def run (d m pc : Nat) (ls st : List AV) (h : AH) : AR := Classical.choose (p := fun g : AR => LimR (fun f => exec f d m pc ls st h) g) (by
  by_cases q : ∃ r f, exec f d m pc ls st h = some r
  · obtain ⟨r, f, e⟩ := q
    refine ⟨some r, fun _ _ _ hf e => exec_mono hf e, fun r' => ⟨fun e' => ⟨f, by rw [← e']; exact e⟩, fun ⟨f', e'⟩ => ?_⟩⟩
    have h1 := exec_mono (Nat.le_add_right f f') e
    have h2 := exec_mono (Nat.le_add_left f' f) e'
    exact h1.symm.trans h2
  · exact ⟨none, fun _ _ _ hf e => exec_mono hf e, fun r' => ⟨fun e' => (by cases e'), fun ⟨f', e'⟩ => absurd ⟨r', f', e'⟩ q⟩⟩)
theorem run_lim (d m pc : Nat) (ls st : List AV) (h : AH) : LimR (fun f => exec f d m pc ls st h) (run d m pc ls st h) := Classical.choose_spec (p := fun g : AR => LimR (fun f => exec f d m pc ls st h) g) _
noncomputable def cal (d m : Nat) (as : List AV) (h : AH) : AR := cond (entOK m as) (run d m 0 (entM m as) [] h) none
noncomputable def calO (d : Nat) (m : Nat) (as : List AV) (h : AH) : AR := match d with
  | 0 => none
  | d + 1 => cal d m as h
theorem run_fix (d m pc : Nat) (ls st : List AV) (h : AH) : run d m pc ls st h = stepM (run d m) (calO d) m pc ls st h := by
  have L := lim_stepM (S := fun f pc ls st h => exec f d m pc ls st h) (s := run d m) (C := fun f m' as h => match d with | 0 => none | d' + 1 => cond (entOK m' as) (exec f d' m' 0 (entM m' as) [] h) none) (c := calO d) (fun pc ls st h => run_lim _ _ _ _ _ _) (fun m' as h => by
    cases d with
    | zero => exact lim_const none
    | succ d => exact lim_cond (run_lim _ _ _ _ _ _) (lim_const none)) m pc ls st h
  have key : ∀ r, run d m pc ls st h = some r ↔ stepM (run d m) (calO d) m pc ls st h = some r := by
    intro r
    rw [(run_lim d m pc ls st h).2 r, L.2 r]
    constructor
    · rintro ⟨f, e⟩
      cases f with
      | zero => cases e
      | succ f => exact ⟨f, e⟩
    · rintro ⟨f, e⟩
      exact ⟨f + 1, e⟩
  cases e1 : run d m pc ls st h with
  | some r => exact ((key r).mp e1).symm
  | none =>
    cases e2 : stepM (run d m) (calO d) m pc ls st h with
    | none => rfl
    | some r => rw [(key r).mpr e2] at e1; cases e1
def memN : Nat → List Nat → Bool
  | _, [] => false
  | n, a :: l => cond (Nat.beq n a) true (memN n l)
noncomputable def blk (cs : List Nat) (self : Nat → List AV → List AV → AH → AR) (call : Nat → List AV → AH → AR) (m : Nat) : Nat → Nat → List AV → List AV → AH → AR
  | 0, pc, ls, st, h => self pc ls st h
  | K + 1, pc, ls, st, h => stepM (fun pc ls st h => cond (memN pc cs) (self pc ls st h) (blk cs self call m K pc ls st h)) call m pc ls st h
theorem run_blk (cs : List Nat) (K d m : Nat) : ∀ (pc : Nat) (ls st : List AV) (h : AH), run (d + 1) m pc ls st h = blk cs (run (d + 1) m) (cal d) m K pc ls st h := by
  induction K with
  | zero => intro pc ls st h; rfl
  | succ K ih =>
    intro pc ls st h
    have e : (fun pc ls st h => cond (memN pc cs) (run (d + 1) m pc ls st h) (blk cs (run (d + 1) m) (cal d) m K pc ls st h)) = run (d + 1) m := by
      funext pc ls st h
      rw [← ih]
      cases memN pc cs <;> rfl
    show _ = stepM (fun pc ls st h => cond (memN pc cs) (run (d + 1) m pc ls st h) (blk cs (run (d + 1) m) (cal d) m K pc ls st h)) (cal d) m pc ls st h
    rw [e]
    exact run_fix (d + 1) m pc ls st h
/-- a method from its entry, unfolded up to the places cs -/
theorem cal_blk (cs : List Nat) (K d m : Nat) (as : List AV) (h : AH) (ho : entOK m as = true) : cal (d + 1) m as h = blk cs (run (d + 1) m) (cal d) m K 0 (entM m as) [] h := by
  unfold cal
  rw [ho]
  exact run_blk cs K d m 0 _ [] h
