/-! Calls: the locals at an entry, a method's contract out of its run, what a caller gets. -/
section ENTRY
variable {G : AG} {as : List Nat}
theorem argL_in : ∀ (avs : List AV) (off j : Nat) (v : AV), (argL avs)[j]? = some v → v.1 ≠ 8 → (off + j, cvv G as v) ∈ lv_args off (avs.map (cvv G as)) ∧ v ∈ avs := by
  intro avs
  induction avs with
  | nil => intro off j v h _; simp [argL] at h
  | cons u r ih =>
    intro off j v h h8
    have hcat := cvv_cat (G := G) (as := as) (v := u)
    rw [List.map_cons]
    show _ ∈ (off, cvv G as u) :: lv_args (if (cvv G as u).category = 2 then off + 2 else off + 1) (r.map (cvv G as)) ∧ _
    unfold argL at h
    by_cases h2 : u.1 = 2
    · rw [hcat, if_pos h2, if_pos rfl]
      have hb : Nat.beq u.1 2 = true := by rw [h2]; rfl
      rw [hb] at h
      match j, h with
      | 0, h => cases h; exact ⟨List.mem_cons_self, List.mem_cons_self⟩
      | 1, h =>
        have : v = (8, 0) := by simpa using h.symm
        rw [this] at h8; exact absurd rfl h8
      | j + 2, h =>
        obtain ⟨h1, h3⟩ := ih (off + 2) j v h h8
        refine ⟨List.mem_cons_of_mem _ ?_, List.mem_cons_of_mem _ h3⟩
        rw [show off + (j + 2) = off + 2 + j by omega]; exact h1
    · rw [hcat, if_neg h2, if_neg (by decide)]
      have hb : Nat.beq u.1 2 = false := by
        cases hq : Nat.beq u.1 2 with
        | true => exact absurd (Nat.eq_of_beq_eq_true hq) h2
        | false => rfl
      rw [hb] at h
      match j, h with
      | 0, h => cases h; exact ⟨List.mem_cons_self, List.mem_cons_self⟩
      | j + 1, h =>
        obtain ⟨h1, h3⟩ := ih (off + 1) j v h h8
        refine ⟨List.mem_cons_of_mem _ ?_, List.mem_cons_of_mem _ h3⟩
        rw [show off + (j + 1) = off + 1 + j by omega]; exact h1
theorem padL_get : ∀ (n : Nat) (l : List AV) (j : Nat) (v : AV), (padL n l)[j]? = some v → l[j]? = some v ∨ v = (9, 0) := by
  intro n
  induction n with
  | zero => intro l j v h; simp [padL] at h
  | succ n ih =>
    intro l j v h
    cases l with
    | nil =>
      unfold padL at h
      match j, h with
      | 0, h => cases h; exact Or.inr rfl
      | j + 1, h =>
        rcases ih [] j v h with q | q
        · simp at q
        · exact Or.inr q
    | cons a l =>
      unfold padL at h
      match j, h with
      | 0, h => exact Or.inl h
      | j + 1, h => exact ih l j v h
theorem padL_len : ∀ (n : Nat) (l : List AV), (padL n l).length = n := by
  intro n
  induction n with
  | zero => intro l; rfl
  | succ n ih =>
    intro l
    cases l with
    | nil => exact congrArg (· + 1) (ih [])
    | cons a l => exact congrArg (· + 1) (ih l)
theorem argL_sl : ∀ (avs : List AV), (lg_sl (avs.map (cvv G as))).length = (argL avs).length := by
  intro avs
  induction avs with
  | nil => rfl
  | cons u r ih =>
    have hcat := cvv_cat (G := G) (as := as) (v := u)
    have h1 : (lg_sl ((u :: r).map (cvv G as))).length = (if (cvv G as u).category = 2 then 2 else 1) + (lg_sl (r.map (cvv G as))).length := by
      unfold lg_sl
      rw [List.map_cons, List.flatMap_cons, List.length_append]
      by_cases q : (cvv G as u).category = 2
      · rw [if_pos q, if_pos q]; rfl
      · rw [if_neg q, if_neg q]; rfl
    rw [h1, ih, hcat]
    show _ = (cond (Nat.beq u.1 2) (u :: (8, 0) :: argL r) (u :: argL r)).length
    by_cases h2 : u.1 = 2
    · have hb : Nat.beq u.1 2 = true := by rw [h2]; rfl
      rw [if_pos h2, if_pos rfl, hb]
      show _ = (argL r).length + 1 + 1
      omega
    · have hb : Nat.beq u.1 2 = false := by
        cases hq : Nat.beq u.1 2 with
        | true => exact absurd (Nat.eq_of_beq_eq_true hq) h2
        | false => rfl
      rw [if_neg h2, if_neg (by decide), hb]
      show _ = (argL r).length + 1
      omega
theorem ent_LsR {tg : List Nat} {avs : List AV} {n : Nat} {lsA : Array Slot} (ho : ∀ v ∈ avs, okv tg v) (hl : lv_has lsA n (lv_args 0 (avs.map (cvv G as)))) : LsR G as tg (padL n (argL avs)) lsA n := by
  have key : ∀ j v, (padL n (argL avs))[j]? = some v → vldB (padL n (argL avs)) j v = true → (j, cvv G as v) ∈ lv_args 0 (avs.map (cvv G as)) ∧ v ∈ avs := by
    intro j v hv hb
    have h89 : v.1 ≠ 8 ∧ v.1 ≠ 9 := by
      unfold vldB at hb
      by_cases q : v.1 = 2
      · omega
      · rw [if_neg q] at hb
        simp only [Bool.or_eq_true, decide_eq_true_eq] at hb
        omega
    rcases padL_get n (argL avs) j v hv with q | q
    · have := argL_in (G := G) (as := as) avs 0 j v q h89.1
      rw [Nat.zero_add] at this
      exact this
    · rw [q] at h89; exact absurd rfl h89.2
  refine ⟨padL_len n _, fun j v hv hb => ho v (key j v hv hb).2, hl.1, hl.2.1, fun q hq => ?_⟩
  obtain ⟨v, h1, h2, h3⟩ := mem_lvl.mp hq
  have := (key q.1 v h1 h2).1
  rw [← h3] at this
  exact hl.2.2 q this
end ENTRY
/-- how a method answers -/
def retV (G : AG) (as : List Nat) (rt : Nat) (x : Int) : Option Value := if rt = 9 then none else some (cvv G as (rt, x))
def amQ (G : AG) (as : List Nat) (rt : Nat) (x : Int) (h' : AH) : Array Value → State → Outcome → State → Prop := fun _ st o t => (∃ as1, (∃ ex, as1 = as ++ ex) ∧ o = .returned (retV G as1 rt x) ∧ (rt ≠ 9 → okv (tgs h') (rt, x)) ∧ RelP G as1 h' t.heap) ∧ va_F (gA G) st t
def PcA (G : AG) (as : List Nat) (avs : List AV) (h : AH) : Array Value → State → Prop := fun v U => v = (avs.map (cvv G as)).toArray ∧ KS G (as.getD 0 0) (as.getD 1 0) U ∧ RelP G as h U.heap
def rmD (d mc ms : Nat) : Room := { frames := d + 8, cells := mc, slots := ms, locals := 100 * d + 400 }
theorem blindA (G : AG) (as : List Nat) (avs : List AV) (h : AH) : FrameBlind (PcA G as avs h) := fun a U g mk hq => ⟨hq.1, hq.2.1.same rfl rfl, hq.2.2⟩
def RetK (G : AG) (p : Program) (l : Launch) (e : Env) (R : Room) (s : State) (mm : MethodId) (args : Array Value) (below : List Frame) (meth : Method) (c : Code) (Q : State → Prop) (n0 t0 : Nat) (as0 : List Nat) (q : MI) (x : Int) (h' : AH) : Prop :=
  ∀ (pc : Nat) (as : List Nat) (H : Heap) (locs : List Loc) (cells slots : Nat) (lsA : Array Slot), (∃ ex, as = as0 ++ ex) → RelP G as h' H → va_S (gA G) s.heap H locs → cells + n0 = h'.length → slots + t0 = tot h' →
  (decode q.2.1 pc = .ok (.ireturn, 1) → q.2.2.2.2.1 = 0 → inI x → (q.2.2.2.1 = some .int ∨ q.2.2.2.1 = some .boolean ∧ (x = 0 ∨ x = 1)) → W p l e R s mm args below meth c H locs cells slots Q (F0 mm pc lsA [.int (Int32.ofInt x)])) ∧
  (decode q.2.1 pc = .ok (.lreturn, 1) → q.2.2.2.2.1 = 2 → inL x → q.2.2.2.1 = some .long → W p l e R s mm args below meth c H locs cells slots Q (F0 mm pc lsA [.long (Int64.ofInt x)])) ∧
  (decode q.2.1 pc = .ok (.areturn, 1) → 100 ≤ q.2.2.2.2.1 → okv (tgs h') (q.2.2.2.2.1, x) → (∃ n, q.2.2.2.1 = some (.object n)) → W p l e R s mm args below meth c H locs cells slots Q (F0 mm pc lsA [.ref (adr as x)])) ∧
  (decode q.2.1 pc = .ok (.return_, 1) → q.2.2.2.2.1 = 9 → q.2.2.2.1 = none → W p l e R s mm args below meth c H locs cells slots Q (F0 mm pc lsA []))
/-- where a method's run stands in the machine -/
def CX (G : AG) (m : Nat) (q : MI) (d : Nat) (p : Program) (R : Room) (s : State) (mm : MethodId) (args : Array Value) (meth : Method) (c : Code) (as0 : List Nat) (w0 : Cond) : Prop :=
  am_inf[m]? = some q ∧ p.tables.exec = Jvm.exec ∧ c.code = q.2.1 ∧ c.maxLocals = q.2.2.1 ∧ s.vm.findClass (ownN q.2.2.2.2.2.2.2.2) = some mm.cls ∧ (∀ w ∈ w0 :: WSg, w.before args s = true) ∧ KS G (as0.getD 0 0) (as0.getD 1 0) s ∧ 2 ≤ as0.length ∧ (q.2.2.2.2.2.1 = 2 → meth.name = "<init>") ∧ d + 8 ≤ R.frames ∧ 100 * d + 400 ≤ R.locals
def Sim (G : AG) (l : Launch) (m d pc : Nat) (ls st : List AV) (h : AH) (r : Int × AH) : Prop := ((∃ te, tgs r.2 = tgs h ++ te) ∧ tot h ≤ tot r.2) ∧
  ∀ (q : MI) (p : Program) (e : Env) (R : Room) (s : State) (mm : MethodId) (args : Array Value) (below : List Frame) (meth : Method) (c : Code) (Q : State → Prop) (n0 t0 : Nat) (as0 : List Nat) (w0 : Cond), CX G m q d p R s mm args meth c as0 w0 → r.2.length ≤ n0 + R.cells → tot r.2 ≤ t0 + R.slots → RetK G p l e R s mm args below meth c Q n0 t0 as0 q r.1 r.2 → Gd G p l e R s mm args below meth c Q q.2.2.1 n0 t0 as0 pc ls st h
theorem tg_len {h h' : AH} (hm : ∃ te, tgs h' = tgs h ++ te) : h.length ≤ h'.length := by
  obtain ⟨te, ht⟩ := hm
  have := congrArg List.length ht
  simp [tgs] at this
  omega
/-- a method's run gives its contract -/
theorem met_of {G : AG} {l : Launch} {m d : Nat} {avs : List AV} {h : AH} {r : Int × AH} {as : List Nat} {q : MI} (hS : Sim G l m d 0 (padL q.2.2.1 (argL avs)) [] h r) (hq : am_inf[m]? = some q) (hlaw : q.1 ≠ yL_law) (hle : (argL avs).length ≤ q.2.2.1) (hav : ∀ v ∈ avs, okv (tgs h) v) :
    Met l q.1 (Cond.code q.1 q.2.1 q.2.2.1 q.2.2.2.1 :: WSg) (rmD d (r.2.length - h.length) (tot r.2 - tot h)) (PcA G as avs h) (amQ G as q.2.2.2.2.1 r.1 r.2) (r.2.length - h.length) (tot r.2 - tot h) (gA G) := by
  obtain ⟨⟨hm1, hm2⟩, hS⟩ := hS
  have hm1 := tg_len hm1
  have hinf := inf_ok q (List.mem_of_getElem? hq)
  refine Met.ofW (cc := q.2.1) (maxL := q.2.2.1) (ret := q.2.2.2.1) hinf.2.2.2.1.1 rfl ?_
  intro p e s mm args below meth c s₁ B hml hv
  obtain ⟨rfl, hK, hR⟩ := hv
  have hx := B.exec
  have hb := B.bytes
  have hr := B.returns
  have hts := atoms_spec (ws := Cond.code q.1 q.2.1 q.2.2.1 q.2.2.2.1 :: WSg) B.pre
  have hown : s.vm.findClass (ownN q.2.2.2.2.2.2.2.2) = some mm.cls := by rw [hinf.1]; exact findClass_of_methodNamed B.named
  have hlocks := B.notSynchronized
  have hnm : meth.name = q.1.name := (name_of_methodNamed B.named B.method).1
  have hvs : va_S (gA G) s.heap s.heap [] := va_S.rf
  have hl := lv_entry (avs.map (cvv G as)) (n := q.2.2.1) (by rw [argL_sl]; exact hle)
  rw [lg_entry_eq]
  generalize (lg_sl (avs.map (cvv G as)) ++ List.replicate (q.2.2.1 - (lg_sl (avs.map (cvv G as))).length) Slot.unset).toArray = lsA at hl ⊢
  refine hS q p e (rmD d (r.2.length - h.length) (tot r.2 - tot h)) s mm _ below meth c _ h.length (tot h) as (Cond.code q.1 q.2.1 q.2.2.1 q.2.2.2.1) ⟨hq, hx, hb, hml, hown, hts, hK, by rw [hR.1]; exact hR.2.1, fun hk => ?_, Nat.le_refl _, Nat.le_refl _⟩ (by show r.2.length ≤ h.length + (r.2.length - h.length); omega) (by show tot r.2 ≤ tot h + (tot r.2 - tot h); omega) ?_ as s.heap [] 0 0 lsA ⟨[], by simp⟩ hR hvs (ent_LsR hav hl) (fun v hv => absurd hv List.not_mem_nil) (by omega) (by omega)
  · rw [hnm]
    have := (hinf.2.2.2.2 hlaw).2.2
    rw [hk] at this
    exact this.2.1
  · intro pc as1 H locs cells slots lsB hE hR1 hS1 hc hs
    have hcm : cells = r.2.length - h.length := by omega
    have hsm : slots = tot r.2 - tot h := by omega
    subst hcm
    subst hsm
    refine ⟨fun hd h0 hI hty => ?_, fun hd h2 hL hty => ?_, fun hd h1 hO hty => ?_, fun hd h9 hty => ?_⟩
    · have hfin : ∀ t : State, t.heap = H → s.WarmedH t.vm → amQ G as q.2.2.2.2.1 r.1 r.2 (avs.map (cvv G as)).toArray s (.returned (some (.int (Int32.ofInt r.1)))) t := fun t ht _ => ⟨⟨as1, hE, by rw [h0]; rfl, fun _ => by rw [h0]; exact ok0I hI, by rw [ht]; exact hR1⟩, hS1.F ht⟩
      rcases hty with q1 | ⟨q1, q2⟩
      · exact W.iret hx hb (hr.trans q1) hfin hS1.2.2 hd
      · exact W.zret (ty := .boolean) hx hb (hr.trans q1) (by rcases q2 with z | z <;> rw [z] <;> rfl) hfin hS1.2.2 hd
    · exact W.lret hx hb (hr.trans hty) (fun t ht _ => ⟨⟨as1, hE, by rw [h2]; rfl, fun _ => by rw [h2]; exact ok2L hL, by rw [ht]; exact hR1⟩, hS1.F ht⟩) hS1.2.2 hd
    · obtain ⟨n, hn⟩ := hty
      refine W.aret hx hb (hr.trans hn) (Or.inl ⟨n, rfl⟩) (Or.inr ⟨_, rfl⟩) (fun t ht _ => ⟨⟨as1, hE, ?_, fun _ => hO, by rw [ht]; exact hR1⟩, hS1.F ht⟩) hS1.2.2 hd
      unfold retV
      rw [if_neg (by omega), cvR G as1 h1]
    · exact W.vret hx hb (hr.trans hty) (fun t ht _ => ⟨⟨as1, hE, by rw [h9]; rfl, fun z => absurd h9 z, by rw [ht]; exact hR1⟩, hS1.F ht⟩) hS1.2.2 hd
theorem call_am {p : Program} {l : Launch} {e : Env} {R : Room} {s : State} {mm : MethodId} {args : Array Value} {below : List Frame} {meth : Method} {c : Code} {Q : State → Prop} {H : Heap} {locs : List Loc} {cells slots mc ms pc : Nat} {lsA : Array Slot} {rest st0 : List Value} {G : AG} {as : List Nat} {rt : Nat} {x : Int} {h' : AH} {a : Array Value}
    (hr : va_Run p l e R s mm args below meth c H locs cells slots mc ms (F0 mm pc lsA st0) rest (amQ G as rt x h' a) (gA G)) (hS : va_S (gA G) s.heap H locs)
    (kk : ∀ (as1 : List Nat) (H1 : Heap) (locs1 : List Loc), (∃ ex, as1 = as ++ ex) → (rt ≠ 9 → okv (tgs h') (rt, x)) → RelP G as1 h' H1 → va_S (gA G) s.heap H1 locs1 → W p l e R s mm args below meth c H1 locs1 (cells + mc) (slots + ms) Q (F0 mm (pc + 3) lsA ((retV G as1 rt x).toList ++ rest))) : W p l e R s mm args below meth c H locs cells slots Q (F0 mm pc lsA st0) := by
  intro T hT X
  obtain ⟨v, st₀, t, T', L, h0, X', hL, e1, e2, ⟨⟨as1, hE, hv, ho, hR⟩, hz, hk⟩, st⟩ := hr T hT X
  cases hv
  rw [h0] at hz hk
  obtain ⟨t2, a1, b1⟩ := kk as1 T'.heap (locs ++ L) hE ho (by rw [e1]; exact hR)
    ⟨Nat.le_trans hS.1 (by rw [e1]; exact hz), fun q h1 h2 => by rw [e1, hk q (Nat.lt_of_lt_of_le h1 hS.1) h2]; exact hS.2.1 q h1 h2, fun q hq => by
      rcases List.mem_append.mp hq with h | h
      · exact hS.2.2 q h
      · exact hL q h⟩ T' rfl X'
  exact ⟨t2, st t2 a1, b1⟩
