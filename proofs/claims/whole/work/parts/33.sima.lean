/-! The abstract machine's runs are the machine's. -/
section SIM
variable {G : AG} {l : Launch}
theorem sim_of {m d pc pc' : Nat} {ls ls' st st' : List AV} {h h1 : AH} {r : Int × AH} {q : MI} (hS : Sim G l m d pc' ls' st' h1 r) (hq : am_inf[m]? = some q) (htg : ∃ te, tgs h1 = tgs h ++ te) (hto : tot h ≤ tot h1)
    (g : ∀ (p : Program) (e : Env) (R : Room) (s : State) (mm : MethodId) (args : Array Value) (below : List Frame) (meth : Method) (c : Code) (Q : State → Prop) (n0 t0 : Nat) (as0 : List Nat) (w0 : Cond), CX G m q d p R s mm args meth c as0 w0 → h1.length ≤ n0 + R.cells → tot h1 ≤ t0 + R.slots → Gd G p l e R s mm args below meth c Q q.2.2.1 n0 t0 as0 pc' ls' st' h1 → Gd G p l e R s mm args below meth c Q q.2.2.1 n0 t0 as0 pc ls st h) : Sim G l m d pc ls st h r := by
  obtain ⟨⟨⟨te, h2⟩, h3⟩, h4⟩ := hS
  obtain ⟨te0, h0⟩ := htg
  refine ⟨⟨⟨te0 ++ te, by rw [h2, h0, List.append_assoc]⟩, Nat.le_trans hto h3⟩, fun q2 p e R s mm args below meth c Q n0 t0 as0 w0 C hrc hrs hK => ?_⟩
  obtain rfl : q = q2 := Option.some.inj (hq.symm.trans C.1)
  have hl := tg_len ⟨te, h2⟩
  exact g p e R s mm args below meth c Q n0 t0 as0 w0 C (Nat.le_trans hl hrc) (Nat.le_trans h3 hrs) (h4 q p e R s mm args below meth c Q n0 t0 as0 w0 C hrc hrs hK)
theorem te0 (h : AH) : ∃ te, tgs h = tgs h ++ te := ⟨[], by simp⟩
theorem teS {h : AH} {k t : Nat} {xs ys : List Int} (hc : h[k]? = some (t, xs)) : ∃ te, tgs (h.set k (t, ys)) = tgs h ++ te := ⟨[], by rw [tgs_set hc]; simp⟩
theorem teP (h : AH) (c : Nat × List Int) : ∃ te, tgs (h ++ [c]) = tgs h ++ te := ⟨[c.1], by simp [tgs]⟩
theorem toS {h : AH} {k t : Nat} {xs ys : List Int} (hc : h[k]? = some (t, xs)) (hl : ys.length = xs.length) : tot h ≤ tot (h.set k (t, ys)) := by rw [tot_set hc hl]; exact Nat.le_refl _
theorem toP (h : AH) (c : Nat × List Int) : tot h ≤ tot (h ++ [c]) := by rw [tot_push]; omega
/-- two ways on -/
theorem sim_or {m d pc : Nat} {ls st : List AV} {h : AH} {r : Int × AH} {q : MI} (hq : am_inf[m]? = some q) (hm : (∃ te, tgs r.2 = tgs h ++ te) ∧ tot h ≤ tot r.2)
    (g : ∀ (p : Program) (e : Env) (R : Room) (s : State) (mm : MethodId) (args : Array Value) (below : List Frame) (meth : Method) (c : Code) (Q : State → Prop) (n0 t0 : Nat) (as0 : List Nat) (w0 : Cond), CX G m q d p R s mm args meth c as0 w0 → r.2.length ≤ n0 + R.cells → tot r.2 ≤ t0 + R.slots → RetK G p l e R s mm args below meth c Q n0 t0 as0 q r.1 r.2 → Gd G p l e R s mm args below meth c Q q.2.2.1 n0 t0 as0 pc ls st h) : Sim G l m d pc ls st h r := by
  refine ⟨hm, fun q2 p e R s mm args below meth c Q n0 t0 as0 w0 C hrc hrs hK => ?_⟩
  obtain rfl : q = q2 := Option.some.inj (hq.symm.trans C.1)
  exact g p e R s mm args below meth c Q n0 t0 as0 w0 C hrc hrs hK
theorem lnk {o i k a : Nat} {z : Int} (h : fndL (lkT o) i = (k, a, z)) (hk : k ≠ 99) : lnkOK o (i, k, a, z) := by
  have h1 := fndL_in (l := lkT o) (i := i) (by rw [h]; exact hk)
  rw [h] at h1
  exact lk_ok o _ h1
theorem pop_inv : ∀ {n : Nat} {st acc : List AV} {ar : List AV × List AV}, am_pop n st acc = some ar → ∃ a, ar.1 = a ++ acc ∧ st = a.reverse ++ ar.2 ∧ a.length = n := by
  intro n
  induction n with
  | zero => intro st acc ar h; cases h; exact ⟨[], rfl, rfl, rfl⟩
  | succ n ih =>
    intro st acc ar h
    cases st with
    | nil => cases h
    | cons v st =>
      obtain ⟨a, h1, h2, h3⟩ := ih (show am_pop n st (v :: acc) = some ar from h)
      exact ⟨a ++ [v], by rw [h1]; simp, by rw [h2]; simp, by simp [h3]⟩
def CallH (G : AG) (l : Launch) (d : Nat) (call : Nat → List AV → AH → AR) : Prop := ∀ m' avs h r, call m' avs h = some r → ∃ d', d = d' + 1 ∧ ∀ q', am_inf[m']? = some q' → (argL avs).length ≤ q'.2.2.1 ∧ Sim G l m' d' 0 (padL q'.2.2.1 (argL avs)) [] h r
theorem infN_some {m : Nat} {k : Nat × Nat × Nat × Nat} (h : infN m = k) (hk : k.1 ≠ 9) : ∃ q, am_inf[m]? = some q ∧ (q.2.2.2.2.2.1, q.2.2.2.2.2.2.1, q.2.2.2.2.1, q.2.2.2.2.2.2.2.1) = k := by
  unfold infN at h
  cases hq : am_inf[m]? with
  | none => rw [hq] at h; rw [← h] at hk; exact absurd rfl hk
  | some q => rw [hq] at h; exact ⟨q, rfl, h⟩
theorem law_kind : ∀ q ∈ am_inf, q.1 = yL_law → q.2.2.2.2.2.1 = 0 := by
  intro q hq
  have : ∀ q ∈ am_inf, q.2.2.2.2.2.1 = 0 ∨ ¬ q.1 = yL_law := by decide +kernel
  intro e
  rcases this q hq with h | h
  · exact h
  · exact absurd e h
theorem law_id : ∀ m q, am_inf[m]? = some q → m ≠ 202 → q.1 ≠ yL_law := by
  intro m q hq hm e
  have h1 : ∀ m, m < am_inf.length → m = 202 ∨ ¬ (am_inf.getD m mi0).1 = yL_law := by decide +kernel
  rcases h1 m (List.getElem?_eq_some_iff.mp hq).1 with h | h
  · exact hm h
  · rw [gdE, hq] at h; exact h e
theorem getM {m : Nat} {q : MI} (hq : am_inf[m]? = some q) : am_inf.getD m mi0 = q := by rw [gdE, hq]; rfl
theorem s_iconst {m d pc : Nat} {ls st : List AV} {h : AH} {r : Int × AH} {q : MI} {self : Nat → List AV → List AV → AH → AR} {call : Nat → List AV → AH → AR} {lk : LK} {prs : List (Int × Nat)} {n : Int} (hself : ∀ pc ls st h r, self pc ls st h = some r → Sim G l m d pc ls st h r) (hcall : CallH G l d call) (hq : am_inf[m]? = some q) (e : stepF self call (.iconst n) lk prs pc ls st h = some r)
    (hD : ∃ nz, decode q.2.1 pc = .ok (.iconst n, nz) ∧ (isSw (.iconst n) = false → nz = lenI (.iconst n))) (hL : chkL q.2.2.2.2.2.2.2.2 pc (.iconst n) lk prs = true) (hRk : am_rk q (pc, .iconst n, lk, prs) = true) : Sim G l m d pc ls st h r := by
  obtain ⟨nn, hd, hnn⟩ := hD
  dsimp only [stepF, am_b2, am_l2] at e
  rw [hnn rfl] at hd
  have hL : -128 ≤ n ∧ n < 128 := of_decide_eq_true hL
  exact sim_of (hself _ _ _ _ _ e) hq (te0 h) (Nat.le_refl _) (fun p ev R s mm args below meth c Q n0 t0 as0 w0 C hc ht hN => g_iconst C.2.1 C.2.2.1 hd ⟨by omega, by omega⟩ hN)
theorem s_bipush {m d pc : Nat} {ls st : List AV} {h : AH} {r : Int × AH} {q : MI} {self : Nat → List AV → List AV → AH → AR} {call : Nat → List AV → AH → AR} {lk : LK} {prs : List (Int × Nat)} {n : Int} (hself : ∀ pc ls st h r, self pc ls st h = some r → Sim G l m d pc ls st h r) (hcall : CallH G l d call) (hq : am_inf[m]? = some q) (e : stepF self call (.bipush n) lk prs pc ls st h = some r)
    (hD : ∃ nz, decode q.2.1 pc = .ok (.bipush n, nz) ∧ (isSw (.bipush n) = false → nz = lenI (.bipush n))) (hL : chkL q.2.2.2.2.2.2.2.2 pc (.bipush n) lk prs = true) (hRk : am_rk q (pc, .bipush n, lk, prs) = true) : Sim G l m d pc ls st h r := by
  obtain ⟨nn, hd, hnn⟩ := hD
  dsimp only [stepF, am_b2, am_l2] at e
  rw [hnn rfl] at hd
  have hL : -128 ≤ n ∧ n < 128 := of_decide_eq_true hL
  exact sim_of (hself _ _ _ _ _ e) hq (te0 h) (Nat.le_refl _) (fun p ev R s mm args below meth c Q n0 t0 as0 w0 C hc ht hN => g_bipush C.2.1 C.2.2.1 hd hL hN)
theorem s_sipush {m d pc : Nat} {ls st : List AV} {h : AH} {r : Int × AH} {q : MI} {self : Nat → List AV → List AV → AH → AR} {call : Nat → List AV → AH → AR} {lk : LK} {prs : List (Int × Nat)} {n : Int} (hself : ∀ pc ls st h r, self pc ls st h = some r → Sim G l m d pc ls st h r) (hcall : CallH G l d call) (hq : am_inf[m]? = some q) (e : stepF self call (.sipush n) lk prs pc ls st h = some r)
    (hD : ∃ nz, decode q.2.1 pc = .ok (.sipush n, nz) ∧ (isSw (.sipush n) = false → nz = lenI (.sipush n))) (hL : chkL q.2.2.2.2.2.2.2.2 pc (.sipush n) lk prs = true) (hRk : am_rk q (pc, .sipush n, lk, prs) = true) : Sim G l m d pc ls st h r := by
  obtain ⟨nn, hd, hnn⟩ := hD
  dsimp only [stepF, am_b2, am_l2] at e
  rw [hnn rfl] at hd
  have hL : -32768 ≤ n ∧ n < 32768 := of_decide_eq_true hL
  exact sim_of (hself _ _ _ _ _ e) hq (te0 h) (Nat.le_refl _) (fun p ev R s mm args below meth c Q n0 t0 as0 w0 C hc ht hN => g_sipush C.2.1 C.2.2.1 hd hL hN)
theorem s_lconst {m d pc : Nat} {ls st : List AV} {h : AH} {r : Int × AH} {q : MI} {self : Nat → List AV → List AV → AH → AR} {call : Nat → List AV → AH → AR} {lk : LK} {prs : List (Int × Nat)} {n : Fin 2} (hself : ∀ pc ls st h r, self pc ls st h = some r → Sim G l m d pc ls st h r) (hcall : CallH G l d call) (hq : am_inf[m]? = some q) (e : stepF self call (.lconst n) lk prs pc ls st h = some r)
    (hD : ∃ nz, decode q.2.1 pc = .ok (.lconst n, nz) ∧ (isSw (.lconst n) = false → nz = lenI (.lconst n))) (hL : chkL q.2.2.2.2.2.2.2.2 pc (.lconst n) lk prs = true) (hRk : am_rk q (pc, .lconst n, lk, prs) = true) : Sim G l m d pc ls st h r := by
  obtain ⟨nn, hd, hnn⟩ := hD
  dsimp only [stepF, am_b2, am_l2] at e
  rw [hnn rfl] at hd
  have hL : lk.2.2.2 = (n.val : Int) := of_decide_eq_true hL
  exact sim_of (hself _ _ _ _ _ e) hq (te0 h) (Nat.le_refl _) (fun p ev R s mm args below meth c Q n0 t0 as0 w0 C hc ht hN => g_lconst C.2.1 C.2.2.1 hd hL hN)
theorem s_ldc {m d pc : Nat} {ls st : List AV} {h : AH} {r : Int × AH} {q : MI} {self : Nat → List AV → List AV → AH → AR} {call : Nat → List AV → AH → AR} {lk : LK} {prs : List (Int × Nat)} {i : Nat} (hself : ∀ pc ls st h r, self pc ls st h = some r → Sim G l m d pc ls st h r) (hcall : CallH G l d call) (hq : am_inf[m]? = some q) (e : stepF self call (.ldc i) lk prs pc ls st h = some r)
    (hD : ∃ nz, decode q.2.1 pc = .ok (.ldc i, nz) ∧ (isSw (.ldc i) = false → nz = lenI (.ldc i))) (hL : chkL q.2.2.2.2.2.2.2.2 pc (.ldc i) lk prs = true) (hRk : am_rk q (pc, .ldc i, lk, prs) = true) : Sim G l m d pc ls st h r := by
  obtain ⟨nn, hd, hnn⟩ := hD
  dsimp only [stepF, am_b2, am_l2] at e
  rw [hnn rfl] at hd
  have e : cond (Nat.beq lk.1 0) (self (pc + 2) ls ((0, lk.2.2.2) :: st) h) (self (pc + 2) ls ((3, lk.2.2.2) :: st) h) = some r := e
  have hL : cond (Nat.beq lk.1 0) (decide (-2147483648 ≤ lk.2.2.2 ∧ lk.2.2.2 < 2147483648) && decide (fndL (lkT q.2.2.2.2.2.2.2.2) i = (5, 0, lk.2.2.2))) (decide (fndL (lkT q.2.2.2.2.2.2.2.2) i = (12, 0, lk.2.2.2))) = true := hL
  cases hb : Nat.beq lk.1 0 with
  | true =>
    rw [hb] at e hL
    have hL : (decide (-2147483648 ≤ lk.2.2.2 ∧ lk.2.2.2 < 2147483648) && decide (fndL (lkT q.2.2.2.2.2.2.2.2) i = (5, 0, lk.2.2.2))) = true := hL
    simp only [Bool.and_eq_true, decide_eq_true_eq] at hL
    have hw : Cond.constant _ i (Int32.ofInt lk.2.2.2) ∈ WSg := lnk hL.2 (by decide)
    exact sim_of (hself _ _ _ _ _ e) hq (te0 h) (Nat.le_refl _) (fun p ev R s mm args below meth c Q n0 t0 as0 w0 C hc ht hN => g_ldcI C.2.1 C.2.2.1 C.2.2.2.2.1 ((fun w hw => C.2.2.2.2.2.1 w (List.mem_cons_of_mem _ hw)) _ hw) hd hL.1 hN)
  | false =>
    rw [hb] at e hL
    have hL : fndL (lkT q.2.2.2.2.2.2.2.2) i = (12, 0, lk.2.2.2) := of_decide_eq_true hL
    obtain ⟨h1, h2, h3, h4⟩ : ownN q.2.2.2.2.2.2.2.2 = RX6 ∧ 0 ≤ lk.2.2.2 ∧ lk.2.2.2 < 9 ∧ (strI.getD lk.2.2.2.toNat (0, "")).1 = i := lnk hL (by decide)
    refine sim_of (hself _ _ _ _ _ e) hq (te0 h) (Nat.le_refl _) (fun p ev R s mm args below meth c Q n0 t0 as0 w0 C hc ht hN => ?_)
    have hz := (C.2.2.2.2.2.2.1).2.2.2.2.2.2.1 lk.2.2.2.toNat (by omega)
    rw [h4, ← h1] at hz
    exact g_ldcS C.2.1 C.2.2.1 C.2.2.2.2.1 hz hd ⟨h2, h3⟩ hN
theorem s_ldc_w {m d pc : Nat} {ls st : List AV} {h : AH} {r : Int × AH} {q : MI} {self : Nat → List AV → List AV → AH → AR} {call : Nat → List AV → AH → AR} {lk : LK} {prs : List (Int × Nat)} {i : Nat} (hself : ∀ pc ls st h r, self pc ls st h = some r → Sim G l m d pc ls st h r) (hcall : CallH G l d call) (hq : am_inf[m]? = some q) (e : stepF self call (.ldc_w i) lk prs pc ls st h = some r)
    (hD : ∃ nz, decode q.2.1 pc = .ok (.ldc_w i, nz) ∧ (isSw (.ldc_w i) = false → nz = lenI (.ldc_w i))) (hL : chkL q.2.2.2.2.2.2.2.2 pc (.ldc_w i) lk prs = true) (hRk : am_rk q (pc, .ldc_w i, lk, prs) = true) : Sim G l m d pc ls st h r := by
  obtain ⟨nn, hd, hnn⟩ := hD
  dsimp only [stepF, am_b2, am_l2] at e
  rw [hnn rfl] at hd
  have hL : (decide (-2147483648 ≤ lk.2.2.2 ∧ lk.2.2.2 < 2147483648) && decide (fndL (lkT q.2.2.2.2.2.2.2.2) i = (5, 0, lk.2.2.2))) = true := hL
  simp only [Bool.and_eq_true, decide_eq_true_eq] at hL
  have hw : Cond.constant _ i (Int32.ofInt lk.2.2.2) ∈ WSg := lnk hL.2 (by decide)
  exact sim_of (hself _ _ _ _ _ e) hq (te0 h) (Nat.le_refl _) (fun p ev R s mm args below meth c Q n0 t0 as0 w0 C hc ht hN => g_ldcw C.2.1 C.2.2.1 C.2.2.2.2.1 ((fun w hw => C.2.2.2.2.2.1 w (List.mem_cons_of_mem _ hw)) _ hw) hd hL.1 hN)
theorem s_ldc2_w {m d pc : Nat} {ls st : List AV} {h : AH} {r : Int × AH} {q : MI} {self : Nat → List AV → List AV → AH → AR} {call : Nat → List AV → AH → AR} {lk : LK} {prs : List (Int × Nat)} {i : Nat} (hself : ∀ pc ls st h r, self pc ls st h = some r → Sim G l m d pc ls st h r) (hcall : CallH G l d call) (hq : am_inf[m]? = some q) (e : stepF self call (.ldc2_w i) lk prs pc ls st h = some r)
    (hD : ∃ nz, decode q.2.1 pc = .ok (.ldc2_w i, nz) ∧ (isSw (.ldc2_w i) = false → nz = lenI (.ldc2_w i))) (hL : chkL q.2.2.2.2.2.2.2.2 pc (.ldc2_w i) lk prs = true) (hRk : am_rk q (pc, .ldc2_w i, lk, prs) = true) : Sim G l m d pc ls st h r := by
  obtain ⟨nn, hd, hnn⟩ := hD
  dsimp only [stepF, am_b2, am_l2] at e
  rw [hnn rfl] at hd
  have hL : (decide (-9223372036854775808 ≤ lk.2.2.2 ∧ lk.2.2.2 < 9223372036854775808) && decide (fndL (lkT q.2.2.2.2.2.2.2.2) i = (6, 0, lk.2.2.2))) = true := hL
  simp only [Bool.and_eq_true, decide_eq_true_eq] at hL
  have hw : Cond.constantLong _ i (Int64.ofInt lk.2.2.2) ∈ WSg := lnk hL.2 (by decide)
  exact sim_of (hself _ _ _ _ _ e) hq (te0 h) (Nat.le_refl _) (fun p ev R s mm args below meth c Q n0 t0 as0 w0 C hc ht hN => g_ldc2 C.2.1 C.2.2.1 C.2.2.2.2.1 ((fun w hw => C.2.2.2.2.2.1 w (List.mem_cons_of_mem _ hw)) _ hw) hd hL.1 hN)
theorem s_iload_n {m d pc : Nat} {ls st : List AV} {h : AH} {r : Int × AH} {q : MI} {self : Nat → List AV → List AV → AH → AR} {call : Nat → List AV → AH → AR} {lk : LK} {prs : List (Int × Nat)} {k : Fin 4} (hself : ∀ pc ls st h r, self pc ls st h = some r → Sim G l m d pc ls st h r) (hcall : CallH G l d call) (hq : am_inf[m]? = some q) (e : stepF self call (.iload_n k) lk prs pc ls st h = some r)
    (hD : ∃ nz, decode q.2.1 pc = .ok (.iload_n k, nz) ∧ (isSw (.iload_n k) = false → nz = lenI (.iload_n k))) (hL : chkL q.2.2.2.2.2.2.2.2 pc (.iload_n k) lk prs = true) (hRk : am_rk q (pc, .iload_n k, lk, prs) = true) : Sim G l m d pc ls st h r := by
  obtain ⟨nn, hd, hnn⟩ := hD
  dsimp only [stepF, am_b2, am_l2] at e
  rw [hnn rfl] at hd
  have hL : k.val = lk.1 := Nat.eq_of_beq_eq_true hL
  obtain ⟨x, hv, e⟩ := ld_inv e
  exact sim_of (hself _ _ _ _ _ e) hq (te0 h) (Nat.le_refl _) (fun p ev R s mm args below meth c Q n0 t0 as0 w0 C hc ht hN => g_iload_n C.2.1 C.2.2.1 hd hL hv hN)
theorem s_lload_n {m d pc : Nat} {ls st : List AV} {h : AH} {r : Int × AH} {q : MI} {self : Nat → List AV → List AV → AH → AR} {call : Nat → List AV → AH → AR} {lk : LK} {prs : List (Int × Nat)} {k : Fin 4} (hself : ∀ pc ls st h r, self pc ls st h = some r → Sim G l m d pc ls st h r) (hcall : CallH G l d call) (hq : am_inf[m]? = some q) (e : stepF self call (.lload_n k) lk prs pc ls st h = some r)
    (hD : ∃ nz, decode q.2.1 pc = .ok (.lload_n k, nz) ∧ (isSw (.lload_n k) = false → nz = lenI (.lload_n k))) (hL : chkL q.2.2.2.2.2.2.2.2 pc (.lload_n k) lk prs = true) (hRk : am_rk q (pc, .lload_n k, lk, prs) = true) : Sim G l m d pc ls st h r := by
  obtain ⟨nn, hd, hnn⟩ := hD
  dsimp only [stepF, am_b2, am_l2] at e
  rw [hnn rfl] at hd
  have hL : k.val = lk.1 := Nat.eq_of_beq_eq_true hL
  obtain ⟨x, u, hv, hu, h8, e⟩ := ldl_inv e
  exact sim_of (hself _ _ _ _ _ e) hq (te0 h) (Nat.le_refl _) (fun p ev R s mm args below meth c Q n0 t0 as0 w0 C hc ht hN => g_lload_n C.2.1 C.2.2.1 hd hL hv hu h8 hN)
theorem s_aload_n {m d pc : Nat} {ls st : List AV} {h : AH} {r : Int × AH} {q : MI} {self : Nat → List AV → List AV → AH → AR} {call : Nat → List AV → AH → AR} {lk : LK} {prs : List (Int × Nat)} {k : Fin 4} (hself : ∀ pc ls st h r, self pc ls st h = some r → Sim G l m d pc ls st h r) (hcall : CallH G l d call) (hq : am_inf[m]? = some q) (e : stepF self call (.aload_n k) lk prs pc ls st h = some r)
    (hD : ∃ nz, decode q.2.1 pc = .ok (.aload_n k, nz) ∧ (isSw (.aload_n k) = false → nz = lenI (.aload_n k))) (hL : chkL q.2.2.2.2.2.2.2.2 pc (.aload_n k) lk prs = true) (hRk : am_rk q (pc, .aload_n k, lk, prs) = true) : Sim G l m d pc ls st h r := by
  obtain ⟨nn, hd, hnn⟩ := hD
  dsimp only [stepF, am_b2, am_l2] at e
  rw [hnn rfl] at hd
  have hL : k.val = lk.1 := Nat.eq_of_beq_eq_true hL
  obtain ⟨v, hv, ht3, e⟩ := lda_inv e
  exact sim_of (hself _ _ _ _ _ e) hq (te0 h) (Nat.le_refl _) (fun p ev R s mm args below meth c Q n0 t0 as0 w0 C hc ht hN => g_aload_n C.2.1 C.2.2.1 hd hL hv ht3 hN)
theorem s_istore_n {m d pc : Nat} {ls st : List AV} {h : AH} {r : Int × AH} {q : MI} {self : Nat → List AV → List AV → AH → AR} {call : Nat → List AV → AH → AR} {lk : LK} {prs : List (Int × Nat)} {k : Fin 4} (hself : ∀ pc ls st h r, self pc ls st h = some r → Sim G l m d pc ls st h r) (hcall : CallH G l d call) (hq : am_inf[m]? = some q) (e : stepF self call (.istore_n k) lk prs pc ls st h = some r)
    (hD : ∃ nz, decode q.2.1 pc = .ok (.istore_n k, nz) ∧ (isSw (.istore_n k) = false → nz = lenI (.istore_n k))) (hL : chkL q.2.2.2.2.2.2.2.2 pc (.istore_n k) lk prs = true) (hRk : am_rk q (pc, .istore_n k, lk, prs) = true) : Sim G l m d pc ls st h r := by
  obtain ⟨nn, hd, hnn⟩ := hD
  dsimp only [stepF, am_b2, am_l2] at e
  rw [hnn rfl] at hd
  have hL : k.val = lk.1 := Nat.eq_of_beq_eq_true hL
  have eQ := st_inv e
  clear e
  obtain ⟨x, st1, rfl, hi, e⟩ := eQ
  exact sim_of (hself _ _ _ _ _ e) hq (te0 h) (Nat.le_refl _) (fun p ev R s mm args below meth c Q n0 t0 as0 w0 C hc ht hN => g_istore_n C.2.1 C.2.2.1 hd hL hi hN)
theorem s_lstore_n {m d pc : Nat} {ls st : List AV} {h : AH} {r : Int × AH} {q : MI} {self : Nat → List AV → List AV → AH → AR} {call : Nat → List AV → AH → AR} {lk : LK} {prs : List (Int × Nat)} {k : Fin 4} (hself : ∀ pc ls st h r, self pc ls st h = some r → Sim G l m d pc ls st h r) (hcall : CallH G l d call) (hq : am_inf[m]? = some q) (e : stepF self call (.lstore_n k) lk prs pc ls st h = some r)
    (hD : ∃ nz, decode q.2.1 pc = .ok (.lstore_n k, nz) ∧ (isSw (.lstore_n k) = false → nz = lenI (.lstore_n k))) (hL : chkL q.2.2.2.2.2.2.2.2 pc (.lstore_n k) lk prs = true) (hRk : am_rk q (pc, .lstore_n k, lk, prs) = true) : Sim G l m d pc ls st h r := by
  obtain ⟨nn, hd, hnn⟩ := hD
  dsimp only [stepF, am_b2, am_l2] at e
  rw [hnn rfl] at hd
  have hL : k.val = lk.1 := Nat.eq_of_beq_eq_true hL
  have eQ := stl_inv e
  clear e
  obtain ⟨x, st1, rfl, hi, e⟩ := eQ
  exact sim_of (hself _ _ _ _ _ e) hq (te0 h) (Nat.le_refl _) (fun p ev R s mm args below meth c Q n0 t0 as0 w0 C hc ht hN => g_lstore_n C.2.1 C.2.2.1 hd hL hi hN)
theorem s_astore_n {m d pc : Nat} {ls st : List AV} {h : AH} {r : Int × AH} {q : MI} {self : Nat → List AV → List AV → AH → AR} {call : Nat → List AV → AH → AR} {lk : LK} {prs : List (Int × Nat)} {k : Fin 4} (hself : ∀ pc ls st h r, self pc ls st h = some r → Sim G l m d pc ls st h r) (hcall : CallH G l d call) (hq : am_inf[m]? = some q) (e : stepF self call (.astore_n k) lk prs pc ls st h = some r)
    (hD : ∃ nz, decode q.2.1 pc = .ok (.astore_n k, nz) ∧ (isSw (.astore_n k) = false → nz = lenI (.astore_n k))) (hL : chkL q.2.2.2.2.2.2.2.2 pc (.astore_n k) lk prs = true) (hRk : am_rk q (pc, .astore_n k, lk, prs) = true) : Sim G l m d pc ls st h r := by
  obtain ⟨nn, hd, hnn⟩ := hD
  dsimp only [stepF, am_b2, am_l2] at e
  rw [hnn rfl] at hd
  have hL : k.val = lk.1 := Nat.eq_of_beq_eq_true hL
  have eQ := sta_inv e
  clear e
  obtain ⟨v, st1, rfl, ht3, hi, e⟩ := eQ
  exact sim_of (hself _ _ _ _ _ e) hq (te0 h) (Nat.le_refl _) (fun p ev R s mm args below meth c Q n0 t0 as0 w0 C hc ht hN => g_astore_n C.2.1 C.2.2.1 hd hL hi ht3 hN)
theorem s_iload {m d pc : Nat} {ls st : List AV} {h : AH} {r : Int × AH} {q : MI} {self : Nat → List AV → List AV → AH → AR} {call : Nat → List AV → AH → AR} {lk : LK} {prs : List (Int × Nat)} {i : Nat} (hself : ∀ pc ls st h r, self pc ls st h = some r → Sim G l m d pc ls st h r) (hcall : CallH G l d call) (hq : am_inf[m]? = some q) (e : stepF self call (.iload i) lk prs pc ls st h = some r)
    (hD : ∃ nz, decode q.2.1 pc = .ok (.iload i, nz) ∧ (isSw (.iload i) = false → nz = lenI (.iload i))) (hL : chkL q.2.2.2.2.2.2.2.2 pc (.iload i) lk prs = true) (hRk : am_rk q (pc, .iload i, lk, prs) = true) : Sim G l m d pc ls st h r := by
  obtain ⟨nn, hd, hnn⟩ := hD
  dsimp only [stepF, am_b2, am_l2] at e
  rw [hnn rfl] at hd
  obtain ⟨x, hv, e⟩ := ld_inv e
  exact sim_of (hself _ _ _ _ _ e) hq (te0 h) (Nat.le_refl _) (fun p ev R s mm args below meth c Q n0 t0 as0 w0 C hc ht hN => g_iload C.2.1 C.2.2.1 hd hv hN)
theorem s_lload {m d pc : Nat} {ls st : List AV} {h : AH} {r : Int × AH} {q : MI} {self : Nat → List AV → List AV → AH → AR} {call : Nat → List AV → AH → AR} {lk : LK} {prs : List (Int × Nat)} {i : Nat} (hself : ∀ pc ls st h r, self pc ls st h = some r → Sim G l m d pc ls st h r) (hcall : CallH G l d call) (hq : am_inf[m]? = some q) (e : stepF self call (.lload i) lk prs pc ls st h = some r)
    (hD : ∃ nz, decode q.2.1 pc = .ok (.lload i, nz) ∧ (isSw (.lload i) = false → nz = lenI (.lload i))) (hL : chkL q.2.2.2.2.2.2.2.2 pc (.lload i) lk prs = true) (hRk : am_rk q (pc, .lload i, lk, prs) = true) : Sim G l m d pc ls st h r := by
  obtain ⟨nn, hd, hnn⟩ := hD
  dsimp only [stepF, am_b2, am_l2] at e
  rw [hnn rfl] at hd
  obtain ⟨x, u, hv, hu, h8, e⟩ := ldl_inv e
  exact sim_of (hself _ _ _ _ _ e) hq (te0 h) (Nat.le_refl _) (fun p ev R s mm args below meth c Q n0 t0 as0 w0 C hc ht hN => g_lload C.2.1 C.2.2.1 hd hv hu h8 hN)
theorem s_aload {m d pc : Nat} {ls st : List AV} {h : AH} {r : Int × AH} {q : MI} {self : Nat → List AV → List AV → AH → AR} {call : Nat → List AV → AH → AR} {lk : LK} {prs : List (Int × Nat)} {i : Nat} (hself : ∀ pc ls st h r, self pc ls st h = some r → Sim G l m d pc ls st h r) (hcall : CallH G l d call) (hq : am_inf[m]? = some q) (e : stepF self call (.aload i) lk prs pc ls st h = some r)
    (hD : ∃ nz, decode q.2.1 pc = .ok (.aload i, nz) ∧ (isSw (.aload i) = false → nz = lenI (.aload i))) (hL : chkL q.2.2.2.2.2.2.2.2 pc (.aload i) lk prs = true) (hRk : am_rk q (pc, .aload i, lk, prs) = true) : Sim G l m d pc ls st h r := by
  obtain ⟨nn, hd, hnn⟩ := hD
  dsimp only [stepF, am_b2, am_l2] at e
  rw [hnn rfl] at hd
  obtain ⟨v, hv, ht3, e⟩ := lda_inv e
  exact sim_of (hself _ _ _ _ _ e) hq (te0 h) (Nat.le_refl _) (fun p ev R s mm args below meth c Q n0 t0 as0 w0 C hc ht hN => g_aload C.2.1 C.2.2.1 hd hv ht3 hN)
theorem s_istore {m d pc : Nat} {ls st : List AV} {h : AH} {r : Int × AH} {q : MI} {self : Nat → List AV → List AV → AH → AR} {call : Nat → List AV → AH → AR} {lk : LK} {prs : List (Int × Nat)} {i : Nat} (hself : ∀ pc ls st h r, self pc ls st h = some r → Sim G l m d pc ls st h r) (hcall : CallH G l d call) (hq : am_inf[m]? = some q) (e : stepF self call (.istore i) lk prs pc ls st h = some r)
    (hD : ∃ nz, decode q.2.1 pc = .ok (.istore i, nz) ∧ (isSw (.istore i) = false → nz = lenI (.istore i))) (hL : chkL q.2.2.2.2.2.2.2.2 pc (.istore i) lk prs = true) (hRk : am_rk q (pc, .istore i, lk, prs) = true) : Sim G l m d pc ls st h r := by
  obtain ⟨nn, hd, hnn⟩ := hD
  dsimp only [stepF, am_b2, am_l2] at e
  rw [hnn rfl] at hd
  have eQ := st_inv e
  clear e
  obtain ⟨x, st1, rfl, hi, e⟩ := eQ
  exact sim_of (hself _ _ _ _ _ e) hq (te0 h) (Nat.le_refl _) (fun p ev R s mm args below meth c Q n0 t0 as0 w0 C hc ht hN => g_istore C.2.1 C.2.2.1 hd hi hN)
theorem s_lstore {m d pc : Nat} {ls st : List AV} {h : AH} {r : Int × AH} {q : MI} {self : Nat → List AV → List AV → AH → AR} {call : Nat → List AV → AH → AR} {lk : LK} {prs : List (Int × Nat)} {i : Nat} (hself : ∀ pc ls st h r, self pc ls st h = some r → Sim G l m d pc ls st h r) (hcall : CallH G l d call) (hq : am_inf[m]? = some q) (e : stepF self call (.lstore i) lk prs pc ls st h = some r)
    (hD : ∃ nz, decode q.2.1 pc = .ok (.lstore i, nz) ∧ (isSw (.lstore i) = false → nz = lenI (.lstore i))) (hL : chkL q.2.2.2.2.2.2.2.2 pc (.lstore i) lk prs = true) (hRk : am_rk q (pc, .lstore i, lk, prs) = true) : Sim G l m d pc ls st h r := by
  obtain ⟨nn, hd, hnn⟩ := hD
  dsimp only [stepF, am_b2, am_l2] at e
  rw [hnn rfl] at hd
  have eQ := stl_inv e
  clear e
  obtain ⟨x, st1, rfl, hi, e⟩ := eQ
  exact sim_of (hself _ _ _ _ _ e) hq (te0 h) (Nat.le_refl _) (fun p ev R s mm args below meth c Q n0 t0 as0 w0 C hc ht hN => g_lstore C.2.1 C.2.2.1 hd hi hN)
theorem s_astore {m d pc : Nat} {ls st : List AV} {h : AH} {r : Int × AH} {q : MI} {self : Nat → List AV → List AV → AH → AR} {call : Nat → List AV → AH → AR} {lk : LK} {prs : List (Int × Nat)} {i : Nat} (hself : ∀ pc ls st h r, self pc ls st h = some r → Sim G l m d pc ls st h r) (hcall : CallH G l d call) (hq : am_inf[m]? = some q) (e : stepF self call (.astore i) lk prs pc ls st h = some r)
    (hD : ∃ nz, decode q.2.1 pc = .ok (.astore i, nz) ∧ (isSw (.astore i) = false → nz = lenI (.astore i))) (hL : chkL q.2.2.2.2.2.2.2.2 pc (.astore i) lk prs = true) (hRk : am_rk q (pc, .astore i, lk, prs) = true) : Sim G l m d pc ls st h r := by
  obtain ⟨nn, hd, hnn⟩ := hD
  dsimp only [stepF, am_b2, am_l2] at e
  rw [hnn rfl] at hd
  have eQ := sta_inv e
  clear e
  obtain ⟨v, st1, rfl, ht3, hi, e⟩ := eQ
  exact sim_of (hself _ _ _ _ _ e) hq (te0 h) (Nat.le_refl _) (fun p ev R s mm args below meth c Q n0 t0 as0 w0 C hc ht hN => g_astore C.2.1 C.2.2.1 hd hi ht3 hN)
theorem s_iinc {m d pc : Nat} {ls st : List AV} {h : AH} {r : Int × AH} {q : MI} {self : Nat → List AV → List AV → AH → AR} {call : Nat → List AV → AH → AR} {lk : LK} {prs : List (Int × Nat)} {i : Nat} {n : Int} (hself : ∀ pc ls st h r, self pc ls st h = some r → Sim G l m d pc ls st h r) (hcall : CallH G l d call) (hq : am_inf[m]? = some q) (e : stepF self call (.iinc i n) lk prs pc ls st h = some r)
    (hD : ∃ nz, decode q.2.1 pc = .ok (.iinc i n, nz) ∧ (isSw (.iinc i n) = false → nz = lenI (.iinc i n))) (hL : chkL q.2.2.2.2.2.2.2.2 pc (.iinc i n) lk prs = true) (hRk : am_rk q (pc, .iinc i n, lk, prs) = true) : Sim G l m d pc ls st h r := by
  obtain ⟨nn, hd, hnn⟩ := hD
  dsimp only [stepF, am_b2, am_l2] at e
  rw [hnn rfl] at hd
  obtain ⟨x, hv, e⟩ := ld_inv e
  obtain ⟨y, st1, hy, e⟩ := p1_inv e
  cases hy
  obtain ⟨hb, e⟩ := cond_inv e
  rw [setL_set] at e
  exact sim_of (hself _ _ _ _ _ e) hq (te0 h) (Nat.le_refl _) (fun p ev R s mm args below meth c Q n0 t0 as0 w0 C hc ht hN => g_iinc C.2.1 C.2.2.1 hd hv (Nat.le_of_ble_eq_true hb) hN)
theorem s_iadd {m d pc : Nat} {ls st : List AV} {h : AH} {r : Int × AH} {q : MI} {self : Nat → List AV → List AV → AH → AR} {call : Nat → List AV → AH → AR} {lk : LK} {prs : List (Int × Nat)} (hself : ∀ pc ls st h r, self pc ls st h = some r → Sim G l m d pc ls st h r) (hcall : CallH G l d call) (hq : am_inf[m]? = some q) (e : stepF self call (.iadd) lk prs pc ls st h = some r)
    (hD : ∃ nz, decode q.2.1 pc = .ok (.iadd, nz) ∧ (isSw (.iadd) = false → nz = lenI (.iadd))) (hL : chkL q.2.2.2.2.2.2.2.2 pc (.iadd) lk prs = true) (hRk : am_rk q (pc, .iadd, lk, prs) = true) : Sim G l m d pc ls st h r := by
  obtain ⟨nn, hd, hnn⟩ := hD
  dsimp only [stepF, am_b2, am_l2] at e
  rw [hnn rfl] at hd
  have eQ := p1_inv e
  clear e
  obtain ⟨y, st1, rfl, e⟩ := eQ
  have eQ := p1_inv e
  clear e
  obtain ⟨x, st2, rfl, e⟩ := eQ
  exact sim_of (hself _ _ _ _ _ e) hq (te0 h) (Nat.le_refl _) (fun p ev R s mm args below meth c Q n0 t0 as0 w0 C hc ht hN => g_iadd C.2.1 C.2.2.1 hd hN)
theorem s_isub {m d pc : Nat} {ls st : List AV} {h : AH} {r : Int × AH} {q : MI} {self : Nat → List AV → List AV → AH → AR} {call : Nat → List AV → AH → AR} {lk : LK} {prs : List (Int × Nat)} (hself : ∀ pc ls st h r, self pc ls st h = some r → Sim G l m d pc ls st h r) (hcall : CallH G l d call) (hq : am_inf[m]? = some q) (e : stepF self call (.isub) lk prs pc ls st h = some r)
    (hD : ∃ nz, decode q.2.1 pc = .ok (.isub, nz) ∧ (isSw (.isub) = false → nz = lenI (.isub))) (hL : chkL q.2.2.2.2.2.2.2.2 pc (.isub) lk prs = true) (hRk : am_rk q (pc, .isub, lk, prs) = true) : Sim G l m d pc ls st h r := by
  obtain ⟨nn, hd, hnn⟩ := hD
  dsimp only [stepF, am_b2, am_l2] at e
  rw [hnn rfl] at hd
  have eQ := p1_inv e
  clear e
  obtain ⟨y, st1, rfl, e⟩ := eQ
  have eQ := p1_inv e
  clear e
  obtain ⟨x, st2, rfl, e⟩ := eQ
  exact sim_of (hself _ _ _ _ _ e) hq (te0 h) (Nat.le_refl _) (fun p ev R s mm args below meth c Q n0 t0 as0 w0 C hc ht hN => g_isub C.2.1 C.2.2.1 hd hN)
theorem s_imul {m d pc : Nat} {ls st : List AV} {h : AH} {r : Int × AH} {q : MI} {self : Nat → List AV → List AV → AH → AR} {call : Nat → List AV → AH → AR} {lk : LK} {prs : List (Int × Nat)} (hself : ∀ pc ls st h r, self pc ls st h = some r → Sim G l m d pc ls st h r) (hcall : CallH G l d call) (hq : am_inf[m]? = some q) (e : stepF self call (.imul) lk prs pc ls st h = some r)
    (hD : ∃ nz, decode q.2.1 pc = .ok (.imul, nz) ∧ (isSw (.imul) = false → nz = lenI (.imul))) (hL : chkL q.2.2.2.2.2.2.2.2 pc (.imul) lk prs = true) (hRk : am_rk q (pc, .imul, lk, prs) = true) : Sim G l m d pc ls st h r := by
  obtain ⟨nn, hd, hnn⟩ := hD
  dsimp only [stepF, am_b2, am_l2] at e
  rw [hnn rfl] at hd
  have eQ := p1_inv e
  clear e
  obtain ⟨y, st1, rfl, e⟩ := eQ
  have eQ := p1_inv e
  clear e
  obtain ⟨x, st2, rfl, e⟩ := eQ
  exact sim_of (hself _ _ _ _ _ e) hq (te0 h) (Nat.le_refl _) (fun p ev R s mm args below meth c Q n0 t0 as0 w0 C hc ht hN => g_imul C.2.1 C.2.2.1 hd hN)
theorem s_iand {m d pc : Nat} {ls st : List AV} {h : AH} {r : Int × AH} {q : MI} {self : Nat → List AV → List AV → AH → AR} {call : Nat → List AV → AH → AR} {lk : LK} {prs : List (Int × Nat)} (hself : ∀ pc ls st h r, self pc ls st h = some r → Sim G l m d pc ls st h r) (hcall : CallH G l d call) (hq : am_inf[m]? = some q) (e : stepF self call (.iand) lk prs pc ls st h = some r)
    (hD : ∃ nz, decode q.2.1 pc = .ok (.iand, nz) ∧ (isSw (.iand) = false → nz = lenI (.iand))) (hL : chkL q.2.2.2.2.2.2.2.2 pc (.iand) lk prs = true) (hRk : am_rk q (pc, .iand, lk, prs) = true) : Sim G l m d pc ls st h r := by
  obtain ⟨nn, hd, hnn⟩ := hD
  dsimp only [stepF, am_b2, am_l2] at e
  rw [hnn rfl] at hd
  have eQ := p1_inv e
  clear e
  obtain ⟨y, st1, rfl, e⟩ := eQ
  have eQ := p1_inv e
  clear e
  obtain ⟨x, st2, rfl, e⟩ := eQ
  exact sim_of (hself _ _ _ _ _ e) hq (te0 h) (Nat.le_refl _) (fun p ev R s mm args below meth c Q n0 t0 as0 w0 C hc ht hN => g_iand C.2.1 C.2.2.1 hd hN)
theorem s_ior {m d pc : Nat} {ls st : List AV} {h : AH} {r : Int × AH} {q : MI} {self : Nat → List AV → List AV → AH → AR} {call : Nat → List AV → AH → AR} {lk : LK} {prs : List (Int × Nat)} (hself : ∀ pc ls st h r, self pc ls st h = some r → Sim G l m d pc ls st h r) (hcall : CallH G l d call) (hq : am_inf[m]? = some q) (e : stepF self call (.ior) lk prs pc ls st h = some r)
    (hD : ∃ nz, decode q.2.1 pc = .ok (.ior, nz) ∧ (isSw (.ior) = false → nz = lenI (.ior))) (hL : chkL q.2.2.2.2.2.2.2.2 pc (.ior) lk prs = true) (hRk : am_rk q (pc, .ior, lk, prs) = true) : Sim G l m d pc ls st h r := by
  obtain ⟨nn, hd, hnn⟩ := hD
  dsimp only [stepF, am_b2, am_l2] at e
  rw [hnn rfl] at hd
  have eQ := p1_inv e
  clear e
  obtain ⟨y, st1, rfl, e⟩ := eQ
  have eQ := p1_inv e
  clear e
  obtain ⟨x, st2, rfl, e⟩ := eQ
  exact sim_of (hself _ _ _ _ _ e) hq (te0 h) (Nat.le_refl _) (fun p ev R s mm args below meth c Q n0 t0 as0 w0 C hc ht hN => g_ior C.2.1 C.2.2.1 hd hN)
theorem s_ishl {m d pc : Nat} {ls st : List AV} {h : AH} {r : Int × AH} {q : MI} {self : Nat → List AV → List AV → AH → AR} {call : Nat → List AV → AH → AR} {lk : LK} {prs : List (Int × Nat)} (hself : ∀ pc ls st h r, self pc ls st h = some r → Sim G l m d pc ls st h r) (hcall : CallH G l d call) (hq : am_inf[m]? = some q) (e : stepF self call (.ishl) lk prs pc ls st h = some r)
    (hD : ∃ nz, decode q.2.1 pc = .ok (.ishl, nz) ∧ (isSw (.ishl) = false → nz = lenI (.ishl))) (hL : chkL q.2.2.2.2.2.2.2.2 pc (.ishl) lk prs = true) (hRk : am_rk q (pc, .ishl, lk, prs) = true) : Sim G l m d pc ls st h r := by
  obtain ⟨nn, hd, hnn⟩ := hD
  dsimp only [stepF, am_b2, am_l2] at e
  rw [hnn rfl] at hd
  have eQ := p1_inv e
  clear e
  obtain ⟨y, st1, rfl, e⟩ := eQ
  have eQ := p1_inv e
  clear e
  obtain ⟨x, st2, rfl, e⟩ := eQ
  exact sim_of (hself _ _ _ _ _ e) hq (te0 h) (Nat.le_refl _) (fun p ev R s mm args below meth c Q n0 t0 as0 w0 C hc ht hN => g_ishl C.2.1 C.2.2.1 hd hN)
theorem s_ishr {m d pc : Nat} {ls st : List AV} {h : AH} {r : Int × AH} {q : MI} {self : Nat → List AV → List AV → AH → AR} {call : Nat → List AV → AH → AR} {lk : LK} {prs : List (Int × Nat)} (hself : ∀ pc ls st h r, self pc ls st h = some r → Sim G l m d pc ls st h r) (hcall : CallH G l d call) (hq : am_inf[m]? = some q) (e : stepF self call (.ishr) lk prs pc ls st h = some r)
    (hD : ∃ nz, decode q.2.1 pc = .ok (.ishr, nz) ∧ (isSw (.ishr) = false → nz = lenI (.ishr))) (hL : chkL q.2.2.2.2.2.2.2.2 pc (.ishr) lk prs = true) (hRk : am_rk q (pc, .ishr, lk, prs) = true) : Sim G l m d pc ls st h r := by
  obtain ⟨nn, hd, hnn⟩ := hD
  dsimp only [stepF, am_b2, am_l2] at e
  rw [hnn rfl] at hd
  have eQ := p1_inv e
  clear e
  obtain ⟨y, st1, rfl, e⟩ := eQ
  have eQ := p1_inv e
  clear e
  obtain ⟨x, st2, rfl, e⟩ := eQ
  exact sim_of (hself _ _ _ _ _ e) hq (te0 h) (Nat.le_refl _) (fun p ev R s mm args below meth c Q n0 t0 as0 w0 C hc ht hN => g_ishr C.2.1 C.2.2.1 hd hN)
theorem s_iushr {m d pc : Nat} {ls st : List AV} {h : AH} {r : Int × AH} {q : MI} {self : Nat → List AV → List AV → AH → AR} {call : Nat → List AV → AH → AR} {lk : LK} {prs : List (Int × Nat)} (hself : ∀ pc ls st h r, self pc ls st h = some r → Sim G l m d pc ls st h r) (hcall : CallH G l d call) (hq : am_inf[m]? = some q) (e : stepF self call (.iushr) lk prs pc ls st h = some r)
    (hD : ∃ nz, decode q.2.1 pc = .ok (.iushr, nz) ∧ (isSw (.iushr) = false → nz = lenI (.iushr))) (hL : chkL q.2.2.2.2.2.2.2.2 pc (.iushr) lk prs = true) (hRk : am_rk q (pc, .iushr, lk, prs) = true) : Sim G l m d pc ls st h r := by
  obtain ⟨nn, hd, hnn⟩ := hD
  dsimp only [stepF, am_b2, am_l2] at e
  rw [hnn rfl] at hd
  have eQ := p1_inv e
  clear e
  obtain ⟨y, st1, rfl, e⟩ := eQ
  have eQ := p1_inv e
  clear e
  obtain ⟨x, st2, rfl, e⟩ := eQ
  exact sim_of (hself _ _ _ _ _ e) hq (te0 h) (Nat.le_refl _) (fun p ev R s mm args below meth c Q n0 t0 as0 w0 C hc ht hN => g_iushr C.2.1 C.2.2.1 hd hN)
theorem s_ladd {m d pc : Nat} {ls st : List AV} {h : AH} {r : Int × AH} {q : MI} {self : Nat → List AV → List AV → AH → AR} {call : Nat → List AV → AH → AR} {lk : LK} {prs : List (Int × Nat)} (hself : ∀ pc ls st h r, self pc ls st h = some r → Sim G l m d pc ls st h r) (hcall : CallH G l d call) (hq : am_inf[m]? = some q) (e : stepF self call (.ladd) lk prs pc ls st h = some r)
    (hD : ∃ nz, decode q.2.1 pc = .ok (.ladd, nz) ∧ (isSw (.ladd) = false → nz = lenI (.ladd))) (hL : chkL q.2.2.2.2.2.2.2.2 pc (.ladd) lk prs = true) (hRk : am_rk q (pc, .ladd, lk, prs) = true) : Sim G l m d pc ls st h r := by
  obtain ⟨nn, hd, hnn⟩ := hD
  dsimp only [stepF, am_b2, am_l2] at e
  rw [hnn rfl] at hd
  have eQ := p1_inv e
  clear e
  obtain ⟨y, st1, rfl, e⟩ := eQ
  have eQ := p1_inv e
  clear e
  obtain ⟨x, st2, rfl, e⟩ := eQ
  exact sim_of (hself _ _ _ _ _ e) hq (te0 h) (Nat.le_refl _) (fun p ev R s mm args below meth c Q n0 t0 as0 w0 C hc ht hN => g_ladd C.2.1 C.2.2.1 hd hN)
theorem s_lmul {m d pc : Nat} {ls st : List AV} {h : AH} {r : Int × AH} {q : MI} {self : Nat → List AV → List AV → AH → AR} {call : Nat → List AV → AH → AR} {lk : LK} {prs : List (Int × Nat)} (hself : ∀ pc ls st h r, self pc ls st h = some r → Sim G l m d pc ls st h r) (hcall : CallH G l d call) (hq : am_inf[m]? = some q) (e : stepF self call (.lmul) lk prs pc ls st h = some r)
    (hD : ∃ nz, decode q.2.1 pc = .ok (.lmul, nz) ∧ (isSw (.lmul) = false → nz = lenI (.lmul))) (hL : chkL q.2.2.2.2.2.2.2.2 pc (.lmul) lk prs = true) (hRk : am_rk q (pc, .lmul, lk, prs) = true) : Sim G l m d pc ls st h r := by
  obtain ⟨nn, hd, hnn⟩ := hD
  dsimp only [stepF, am_b2, am_l2] at e
  rw [hnn rfl] at hd
  have eQ := p1_inv e
  clear e
  obtain ⟨y, st1, rfl, e⟩ := eQ
  have eQ := p1_inv e
  clear e
  obtain ⟨x, st2, rfl, e⟩ := eQ
  exact sim_of (hself _ _ _ _ _ e) hq (te0 h) (Nat.le_refl _) (fun p ev R s mm args below meth c Q n0 t0 as0 w0 C hc ht hN => g_lmul C.2.1 C.2.2.1 hd hN)
theorem s_lor {m d pc : Nat} {ls st : List AV} {h : AH} {r : Int × AH} {q : MI} {self : Nat → List AV → List AV → AH → AR} {call : Nat → List AV → AH → AR} {lk : LK} {prs : List (Int × Nat)} (hself : ∀ pc ls st h r, self pc ls st h = some r → Sim G l m d pc ls st h r) (hcall : CallH G l d call) (hq : am_inf[m]? = some q) (e : stepF self call (.lor) lk prs pc ls st h = some r)
    (hD : ∃ nz, decode q.2.1 pc = .ok (.lor, nz) ∧ (isSw (.lor) = false → nz = lenI (.lor))) (hL : chkL q.2.2.2.2.2.2.2.2 pc (.lor) lk prs = true) (hRk : am_rk q (pc, .lor, lk, prs) = true) : Sim G l m d pc ls st h r := by
  obtain ⟨nn, hd, hnn⟩ := hD
  dsimp only [stepF, am_b2, am_l2] at e
  rw [hnn rfl] at hd
  have eQ := p1_inv e
  clear e
  obtain ⟨y, st1, rfl, e⟩ := eQ
  have eQ := p1_inv e
  clear e
  obtain ⟨x, st2, rfl, e⟩ := eQ
  exact sim_of (hself _ _ _ _ _ e) hq (te0 h) (Nat.le_refl _) (fun p ev R s mm args below meth c Q n0 t0 as0 w0 C hc ht hN => g_lor C.2.1 C.2.2.1 hd hN)
theorem s_lshl {m d pc : Nat} {ls st : List AV} {h : AH} {r : Int × AH} {q : MI} {self : Nat → List AV → List AV → AH → AR} {call : Nat → List AV → AH → AR} {lk : LK} {prs : List (Int × Nat)} (hself : ∀ pc ls st h r, self pc ls st h = some r → Sim G l m d pc ls st h r) (hcall : CallH G l d call) (hq : am_inf[m]? = some q) (e : stepF self call (.lshl) lk prs pc ls st h = some r)
    (hD : ∃ nz, decode q.2.1 pc = .ok (.lshl, nz) ∧ (isSw (.lshl) = false → nz = lenI (.lshl))) (hL : chkL q.2.2.2.2.2.2.2.2 pc (.lshl) lk prs = true) (hRk : am_rk q (pc, .lshl, lk, prs) = true) : Sim G l m d pc ls st h r := by
  obtain ⟨nn, hd, hnn⟩ := hD
  dsimp only [stepF, am_b2, am_l2] at e
  rw [hnn rfl] at hd
  have eQ := p1_inv e
  clear e
  obtain ⟨y, st1, rfl, e⟩ := eQ
  have eQ := p1_inv e
  clear e
  obtain ⟨x, st2, rfl, e⟩ := eQ
  exact sim_of (hself _ _ _ _ _ e) hq (te0 h) (Nat.le_refl _) (fun p ev R s mm args below meth c Q n0 t0 as0 w0 C hc ht hN => g_lshl C.2.1 C.2.2.1 hd hN)
theorem s_lcmp {m d pc : Nat} {ls st : List AV} {h : AH} {r : Int × AH} {q : MI} {self : Nat → List AV → List AV → AH → AR} {call : Nat → List AV → AH → AR} {lk : LK} {prs : List (Int × Nat)} (hself : ∀ pc ls st h r, self pc ls st h = some r → Sim G l m d pc ls st h r) (hcall : CallH G l d call) (hq : am_inf[m]? = some q) (e : stepF self call (.lcmp) lk prs pc ls st h = some r)
    (hD : ∃ nz, decode q.2.1 pc = .ok (.lcmp, nz) ∧ (isSw (.lcmp) = false → nz = lenI (.lcmp))) (hL : chkL q.2.2.2.2.2.2.2.2 pc (.lcmp) lk prs = true) (hRk : am_rk q (pc, .lcmp, lk, prs) = true) : Sim G l m d pc ls st h r := by
  obtain ⟨nn, hd, hnn⟩ := hD
  dsimp only [stepF, am_b2, am_l2] at e
  rw [hnn rfl] at hd
  have eQ := p1_inv e
  clear e
  obtain ⟨y, st1, rfl, e⟩ := eQ
  have eQ := p1_inv e
  clear e
  obtain ⟨x, st2, rfl, e⟩ := eQ
  exact sim_of (hself _ _ _ _ _ e) hq (te0 h) (Nat.le_refl _) (fun p ev R s mm args below meth c Q n0 t0 as0 w0 C hc ht hN => g_lcmp C.2.1 C.2.2.1 hd hN)
theorem s_idiv {m d pc : Nat} {ls st : List AV} {h : AH} {r : Int × AH} {q : MI} {self : Nat → List AV → List AV → AH → AR} {call : Nat → List AV → AH → AR} {lk : LK} {prs : List (Int × Nat)} (hself : ∀ pc ls st h r, self pc ls st h = some r → Sim G l m d pc ls st h r) (hcall : CallH G l d call) (hq : am_inf[m]? = some q) (e : stepF self call (.idiv) lk prs pc ls st h = some r)
    (hD : ∃ nz, decode q.2.1 pc = .ok (.idiv, nz) ∧ (isSw (.idiv) = false → nz = lenI (.idiv))) (hL : chkL q.2.2.2.2.2.2.2.2 pc (.idiv) lk prs = true) (hRk : am_rk q (pc, .idiv, lk, prs) = true) : Sim G l m d pc ls st h r := by
  obtain ⟨nn, hd, hnn⟩ := hD
  dsimp only [stepF, am_b2, am_l2] at e
  rw [hnn rfl] at hd
  have eQ := p1_inv e
  clear e
  obtain ⟨y, st1, rfl, e⟩ := eQ
  have eQ := p1_inv e
  clear e
  obtain ⟨x, st2, rfl, e⟩ := eQ
  obtain ⟨hy, e⟩ := iteN_inv e
  exact sim_of (hself _ _ _ _ _ e) hq (te0 h) (Nat.le_refl _) (fun p ev R s mm args below meth c Q n0 t0 as0 w0 C hc ht hN => g_idiv C.2.1 C.2.2.1 hd hy hN)
theorem s_irem {m d pc : Nat} {ls st : List AV} {h : AH} {r : Int × AH} {q : MI} {self : Nat → List AV → List AV → AH → AR} {call : Nat → List AV → AH → AR} {lk : LK} {prs : List (Int × Nat)} (hself : ∀ pc ls st h r, self pc ls st h = some r → Sim G l m d pc ls st h r) (hcall : CallH G l d call) (hq : am_inf[m]? = some q) (e : stepF self call (.irem) lk prs pc ls st h = some r)
    (hD : ∃ nz, decode q.2.1 pc = .ok (.irem, nz) ∧ (isSw (.irem) = false → nz = lenI (.irem))) (hL : chkL q.2.2.2.2.2.2.2.2 pc (.irem) lk prs = true) (hRk : am_rk q (pc, .irem, lk, prs) = true) : Sim G l m d pc ls st h r := by
  obtain ⟨nn, hd, hnn⟩ := hD
  dsimp only [stepF, am_b2, am_l2] at e
  rw [hnn rfl] at hd
  have eQ := p1_inv e
  clear e
  obtain ⟨y, st1, rfl, e⟩ := eQ
  have eQ := p1_inv e
  clear e
  obtain ⟨x, st2, rfl, e⟩ := eQ
  obtain ⟨hy, e⟩ := iteN_inv e
  exact sim_of (hself _ _ _ _ _ e) hq (te0 h) (Nat.le_refl _) (fun p ev R s mm args below meth c Q n0 t0 as0 w0 C hc ht hN => g_irem C.2.1 C.2.2.1 hd hy hN)
theorem s_ldiv {m d pc : Nat} {ls st : List AV} {h : AH} {r : Int × AH} {q : MI} {self : Nat → List AV → List AV → AH → AR} {call : Nat → List AV → AH → AR} {lk : LK} {prs : List (Int × Nat)} (hself : ∀ pc ls st h r, self pc ls st h = some r → Sim G l m d pc ls st h r) (hcall : CallH G l d call) (hq : am_inf[m]? = some q) (e : stepF self call (.ldiv) lk prs pc ls st h = some r)
    (hD : ∃ nz, decode q.2.1 pc = .ok (.ldiv, nz) ∧ (isSw (.ldiv) = false → nz = lenI (.ldiv))) (hL : chkL q.2.2.2.2.2.2.2.2 pc (.ldiv) lk prs = true) (hRk : am_rk q (pc, .ldiv, lk, prs) = true) : Sim G l m d pc ls st h r := by
  obtain ⟨nn, hd, hnn⟩ := hD
  dsimp only [stepF, am_b2, am_l2] at e
  rw [hnn rfl] at hd
  have eQ := p1_inv e
  clear e
  obtain ⟨y, st1, rfl, e⟩ := eQ
  have eQ := p1_inv e
  clear e
  obtain ⟨x, st2, rfl, e⟩ := eQ
  obtain ⟨hy, e⟩ := iteN_inv e
  exact sim_of (hself _ _ _ _ _ e) hq (te0 h) (Nat.le_refl _) (fun p ev R s mm args below meth c Q n0 t0 as0 w0 C hc ht hN => g_ldiv C.2.1 C.2.2.1 hd hy hN)
theorem s_lrem {m d pc : Nat} {ls st : List AV} {h : AH} {r : Int × AH} {q : MI} {self : Nat → List AV → List AV → AH → AR} {call : Nat → List AV → AH → AR} {lk : LK} {prs : List (Int × Nat)} (hself : ∀ pc ls st h r, self pc ls st h = some r → Sim G l m d pc ls st h r) (hcall : CallH G l d call) (hq : am_inf[m]? = some q) (e : stepF self call (.lrem) lk prs pc ls st h = some r)
    (hD : ∃ nz, decode q.2.1 pc = .ok (.lrem, nz) ∧ (isSw (.lrem) = false → nz = lenI (.lrem))) (hL : chkL q.2.2.2.2.2.2.2.2 pc (.lrem) lk prs = true) (hRk : am_rk q (pc, .lrem, lk, prs) = true) : Sim G l m d pc ls st h r := by
  obtain ⟨nn, hd, hnn⟩ := hD
  dsimp only [stepF, am_b2, am_l2] at e
  rw [hnn rfl] at hd
  have eQ := p1_inv e
  clear e
  obtain ⟨y, st1, rfl, e⟩ := eQ
  have eQ := p1_inv e
  clear e
  obtain ⟨x, st2, rfl, e⟩ := eQ
  obtain ⟨hy, e⟩ := iteN_inv e
  exact sim_of (hself _ _ _ _ _ e) hq (te0 h) (Nat.le_refl _) (fun p ev R s mm args below meth c Q n0 t0 as0 w0 C hc ht hN => g_lrem C.2.1 C.2.2.1 hd hy hN)
theorem s_ineg {m d pc : Nat} {ls st : List AV} {h : AH} {r : Int × AH} {q : MI} {self : Nat → List AV → List AV → AH → AR} {call : Nat → List AV → AH → AR} {lk : LK} {prs : List (Int × Nat)} (hself : ∀ pc ls st h r, self pc ls st h = some r → Sim G l m d pc ls st h r) (hcall : CallH G l d call) (hq : am_inf[m]? = some q) (e : stepF self call (.ineg) lk prs pc ls st h = some r)
    (hD : ∃ nz, decode q.2.1 pc = .ok (.ineg, nz) ∧ (isSw (.ineg) = false → nz = lenI (.ineg))) (hL : chkL q.2.2.2.2.2.2.2.2 pc (.ineg) lk prs = true) (hRk : am_rk q (pc, .ineg, lk, prs) = true) : Sim G l m d pc ls st h r := by
  obtain ⟨nn, hd, hnn⟩ := hD
  dsimp only [stepF, am_b2, am_l2] at e
  rw [hnn rfl] at hd
  have eQ := p1_inv e
  clear e
  obtain ⟨x, st1, rfl, e⟩ := eQ
  exact sim_of (hself _ _ _ _ _ e) hq (te0 h) (Nat.le_refl _) (fun p ev R s mm args below meth c Q n0 t0 as0 w0 C hc ht hN => g_ineg C.2.1 C.2.2.1 hd hN)
theorem s_i2c {m d pc : Nat} {ls st : List AV} {h : AH} {r : Int × AH} {q : MI} {self : Nat → List AV → List AV → AH → AR} {call : Nat → List AV → AH → AR} {lk : LK} {prs : List (Int × Nat)} (hself : ∀ pc ls st h r, self pc ls st h = some r → Sim G l m d pc ls st h r) (hcall : CallH G l d call) (hq : am_inf[m]? = some q) (e : stepF self call (.i2c) lk prs pc ls st h = some r)
    (hD : ∃ nz, decode q.2.1 pc = .ok (.i2c, nz) ∧ (isSw (.i2c) = false → nz = lenI (.i2c))) (hL : chkL q.2.2.2.2.2.2.2.2 pc (.i2c) lk prs = true) (hRk : am_rk q (pc, .i2c, lk, prs) = true) : Sim G l m d pc ls st h r := by
  obtain ⟨nn, hd, hnn⟩ := hD
  dsimp only [stepF, am_b2, am_l2] at e
  rw [hnn rfl] at hd
  have eQ := p1_inv e
  clear e
  obtain ⟨x, st1, rfl, e⟩ := eQ
  exact sim_of (hself _ _ _ _ _ e) hq (te0 h) (Nat.le_refl _) (fun p ev R s mm args below meth c Q n0 t0 as0 w0 C hc ht hN => g_i2c C.2.1 C.2.2.1 hd hN)
theorem s_i2l {m d pc : Nat} {ls st : List AV} {h : AH} {r : Int × AH} {q : MI} {self : Nat → List AV → List AV → AH → AR} {call : Nat → List AV → AH → AR} {lk : LK} {prs : List (Int × Nat)} (hself : ∀ pc ls st h r, self pc ls st h = some r → Sim G l m d pc ls st h r) (hcall : CallH G l d call) (hq : am_inf[m]? = some q) (e : stepF self call (.i2l) lk prs pc ls st h = some r)
    (hD : ∃ nz, decode q.2.1 pc = .ok (.i2l, nz) ∧ (isSw (.i2l) = false → nz = lenI (.i2l))) (hL : chkL q.2.2.2.2.2.2.2.2 pc (.i2l) lk prs = true) (hRk : am_rk q (pc, .i2l, lk, prs) = true) : Sim G l m d pc ls st h r := by
  obtain ⟨nn, hd, hnn⟩ := hD
  dsimp only [stepF, am_b2, am_l2] at e
  rw [hnn rfl] at hd
  have eQ := p1_inv e
  clear e
  obtain ⟨x, st1, rfl, e⟩ := eQ
  exact sim_of (hself _ _ _ _ _ e) hq (te0 h) (Nat.le_refl _) (fun p ev R s mm args below meth c Q n0 t0 as0 w0 C hc ht hN => g_i2l C.2.1 C.2.2.1 hd hN)
theorem s_l2i {m d pc : Nat} {ls st : List AV} {h : AH} {r : Int × AH} {q : MI} {self : Nat → List AV → List AV → AH → AR} {call : Nat → List AV → AH → AR} {lk : LK} {prs : List (Int × Nat)} (hself : ∀ pc ls st h r, self pc ls st h = some r → Sim G l m d pc ls st h r) (hcall : CallH G l d call) (hq : am_inf[m]? = some q) (e : stepF self call (.l2i) lk prs pc ls st h = some r)
    (hD : ∃ nz, decode q.2.1 pc = .ok (.l2i, nz) ∧ (isSw (.l2i) = false → nz = lenI (.l2i))) (hL : chkL q.2.2.2.2.2.2.2.2 pc (.l2i) lk prs = true) (hRk : am_rk q (pc, .l2i, lk, prs) = true) : Sim G l m d pc ls st h r := by
  obtain ⟨nn, hd, hnn⟩ := hD
  dsimp only [stepF, am_b2, am_l2] at e
  rw [hnn rfl] at hd
  have eQ := p1_inv e
  clear e
  obtain ⟨x, st1, rfl, e⟩ := eQ
  exact sim_of (hself _ _ _ _ _ e) hq (te0 h) (Nat.le_refl _) (fun p ev R s mm args below meth c Q n0 t0 as0 w0 C hc ht hN => g_l2i C.2.1 C.2.2.1 hd hN)
theorem s_dup {m d pc : Nat} {ls st : List AV} {h : AH} {r : Int × AH} {q : MI} {self : Nat → List AV → List AV → AH → AR} {call : Nat → List AV → AH → AR} {lk : LK} {prs : List (Int × Nat)} (hself : ∀ pc ls st h r, self pc ls st h = some r → Sim G l m d pc ls st h r) (hcall : CallH G l d call) (hq : am_inf[m]? = some q) (e : stepF self call (.dup) lk prs pc ls st h = some r)
    (hD : ∃ nz, decode q.2.1 pc = .ok (.dup, nz) ∧ (isSw (.dup) = false → nz = lenI (.dup))) (hL : chkL q.2.2.2.2.2.2.2.2 pc (.dup) lk prs = true) (hRk : am_rk q (pc, .dup, lk, prs) = true) : Sim G l m d pc ls st h r := by
  obtain ⟨nn, hd, hnn⟩ := hD
  dsimp only [stepF, am_b2, am_l2] at e
  rw [hnn rfl] at hd
  cases st with
  | nil => cases e
  | cons v st =>
    obtain ⟨hb, e⟩ := condN_inv e
    exact sim_of (hself _ _ _ _ _ e) hq (te0 h) (Nat.le_refl _) (fun p ev R s mm args below meth c Q n0 t0 as0 w0 C hc ht hN => g_dup C.2.1 C.2.2.1 hd hb hN)
theorem s_pop {m d pc : Nat} {ls st : List AV} {h : AH} {r : Int × AH} {q : MI} {self : Nat → List AV → List AV → AH → AR} {call : Nat → List AV → AH → AR} {lk : LK} {prs : List (Int × Nat)} (hself : ∀ pc ls st h r, self pc ls st h = some r → Sim G l m d pc ls st h r) (hcall : CallH G l d call) (hq : am_inf[m]? = some q) (e : stepF self call (.pop) lk prs pc ls st h = some r)
    (hD : ∃ nz, decode q.2.1 pc = .ok (.pop, nz) ∧ (isSw (.pop) = false → nz = lenI (.pop))) (hL : chkL q.2.2.2.2.2.2.2.2 pc (.pop) lk prs = true) (hRk : am_rk q (pc, .pop, lk, prs) = true) : Sim G l m d pc ls st h r := by
  obtain ⟨nn, hd, hnn⟩ := hD
  dsimp only [stepF, am_b2, am_l2] at e
  rw [hnn rfl] at hd
  cases st with
  | nil => cases e
  | cons v st =>
    obtain ⟨hb, e⟩ := condN_inv e
    exact sim_of (hself _ _ _ _ _ e) hq (te0 h) (Nat.le_refl _) (fun p ev R s mm args below meth c Q n0 t0 as0 w0 C hc ht hN => g_pop C.2.1 C.2.2.1 hd hb hN)
theorem s_dup2 {m d pc : Nat} {ls st : List AV} {h : AH} {r : Int × AH} {q : MI} {self : Nat → List AV → List AV → AH → AR} {call : Nat → List AV → AH → AR} {lk : LK} {prs : List (Int × Nat)} (hself : ∀ pc ls st h r, self pc ls st h = some r → Sim G l m d pc ls st h r) (hcall : CallH G l d call) (hq : am_inf[m]? = some q) (e : stepF self call (.dup2) lk prs pc ls st h = some r)
    (hD : ∃ nz, decode q.2.1 pc = .ok (.dup2, nz) ∧ (isSw (.dup2) = false → nz = lenI (.dup2))) (hL : chkL q.2.2.2.2.2.2.2.2 pc (.dup2) lk prs = true) (hRk : am_rk q (pc, .dup2, lk, prs) = true) : Sim G l m d pc ls st h r := by
  obtain ⟨nn, hd, hnn⟩ := hD
  dsimp only [stepF, am_b2, am_l2] at e
  rw [hnn rfl] at hd
  cases st with
  | nil => cases e
  | cons v st =>
    cases st with
    | nil => cases e
    | cons u st =>
      obtain ⟨hb, e⟩ := condN_inv e
      simp only [Bool.or_eq_false_iff] at hb
      exact sim_of (hself _ _ _ _ _ e) hq (te0 h) (Nat.le_refl _) (fun p ev R s mm args below meth c Q n0 t0 as0 w0 C hc ht hN => g_dup2 C.2.1 C.2.2.1 hd hb.1 hb.2 hN)
theorem s_goto {m d pc : Nat} {ls st : List AV} {h : AH} {r : Int × AH} {q : MI} {self : Nat → List AV → List AV → AH → AR} {call : Nat → List AV → AH → AR} {lk : LK} {prs : List (Int × Nat)} {o : Int} (hself : ∀ pc ls st h r, self pc ls st h = some r → Sim G l m d pc ls st h r) (hcall : CallH G l d call) (hq : am_inf[m]? = some q) (e : stepF self call (.goto o) lk prs pc ls st h = some r)
    (hD : ∃ nz, decode q.2.1 pc = .ok (.goto o, nz) ∧ (isSw (.goto o) = false → nz = lenI (.goto o))) (hL : chkL q.2.2.2.2.2.2.2.2 pc (.goto o) lk prs = true) (hRk : am_rk q (pc, .goto o, lk, prs) = true) : Sim G l m d pc ls st h r := by
  obtain ⟨nn, hd, hnn⟩ := hD
  dsimp only [stepF, am_b2, am_l2] at e
  rw [hnn rfl] at hd
  have hL : (pc : Int) + o = (lk.1 : Int) := of_decide_eq_true hL
  exact sim_of (hself _ _ _ _ _ e) hq (te0 h) (Nat.le_refl _) (fun p ev R s mm args below meth c Q n0 t0 as0 w0 C hc ht hN => g_goto C.2.1 C.2.2.1 hd hL hN)
theorem br_inv {k : ClassFile.Cond} {x y : Int} {A B : AR} {r : Int × AH} (e : am_br k x y A B = some r) : A = some r ∨ B = some r := by
  cases k <;> (unfold am_br at e; dsimp only at e; split at e) <;> first | exact Or.inl e | exact Or.inr e
theorem s_ifCond {m d pc : Nat} {ls st : List AV} {h : AH} {r : Int × AH} {q : MI} {self : Nat → List AV → List AV → AH → AR} {call : Nat → List AV → AH → AR} {lk : LK} {prs : List (Int × Nat)} {k : ClassFile.Cond} {o : Int} (hself : ∀ pc ls st h r, self pc ls st h = some r → Sim G l m d pc ls st h r) (hcall : CallH G l d call) (hq : am_inf[m]? = some q) (e : stepF self call (.ifCond k o) lk prs pc ls st h = some r)
    (hD : ∃ nz, decode q.2.1 pc = .ok (.ifCond k o, nz) ∧ (isSw (.ifCond k o) = false → nz = lenI (.ifCond k o))) (hL : chkL q.2.2.2.2.2.2.2.2 pc (.ifCond k o) lk prs = true) (hRk : am_rk q (pc, .ifCond k o, lk, prs) = true) : Sim G l m d pc ls st h r := by
  obtain ⟨nn, hd, hnn⟩ := hD
  dsimp only [stepF, am_b2, am_l2] at e
  rw [hnn rfl] at hd
  have hL : (pc : Int) + o = (lk.1 : Int) := of_decide_eq_true hL
  have eQ := p1_inv e
  clear e
  obtain ⟨x, st1, rfl, e⟩ := eQ
  have hm : (∃ te, tgs r.2 = tgs h ++ te) ∧ tot h ≤ tot r.2 := by
    rcases br_inv e with e | e
    · exact (hself _ _ _ _ _ e).1
    · exact (hself _ _ _ _ _ e).1
  exact sim_or hq hm (fun p ev R s mm args below meth c Q n0 t0 as0 w0 C hrc hrs hK => g_if C.2.1 C.2.2.1 hd hL e (fun e => (hself _ _ _ _ _ e).2 q p ev R s mm args below meth c Q n0 t0 as0 w0 C hrc hrs hK) (fun e => (hself _ _ _ _ _ e).2 q p ev R s mm args below meth c Q n0 t0 as0 w0 C hrc hrs hK))
theorem s_if_icmp {m d pc : Nat} {ls st : List AV} {h : AH} {r : Int × AH} {q : MI} {self : Nat → List AV → List AV → AH → AR} {call : Nat → List AV → AH → AR} {lk : LK} {prs : List (Int × Nat)} {k : ClassFile.Cond} {o : Int} (hself : ∀ pc ls st h r, self pc ls st h = some r → Sim G l m d pc ls st h r) (hcall : CallH G l d call) (hq : am_inf[m]? = some q) (e : stepF self call (.if_icmp k o) lk prs pc ls st h = some r)
    (hD : ∃ nz, decode q.2.1 pc = .ok (.if_icmp k o, nz) ∧ (isSw (.if_icmp k o) = false → nz = lenI (.if_icmp k o))) (hL : chkL q.2.2.2.2.2.2.2.2 pc (.if_icmp k o) lk prs = true) (hRk : am_rk q (pc, .if_icmp k o, lk, prs) = true) : Sim G l m d pc ls st h r := by
  obtain ⟨nn, hd, hnn⟩ := hD
  dsimp only [stepF, am_b2, am_l2] at e
  rw [hnn rfl] at hd
  have hL : (pc : Int) + o = (lk.1 : Int) := of_decide_eq_true hL
  have eQ := p1_inv e
  clear e
  obtain ⟨y, st1, rfl, e⟩ := eQ
  have eQ := p1_inv e
  clear e
  obtain ⟨x, st2, rfl, e⟩ := eQ
  have hm : (∃ te, tgs r.2 = tgs h ++ te) ∧ tot h ≤ tot r.2 := by
    rcases br_inv e with e | e
    · exact (hself _ _ _ _ _ e).1
    · exact (hself _ _ _ _ _ e).1
  exact sim_or hq hm (fun p ev R s mm args below meth c Q n0 t0 as0 w0 C hrc hrs hK => g_icmp C.2.1 C.2.2.1 hd hL e (fun e => (hself _ _ _ _ _ e).2 q p ev R s mm args below meth c Q n0 t0 as0 w0 C hrc hrs hK) (fun e => (hself _ _ _ _ _ e).2 q p ev R s mm args below meth c Q n0 t0 as0 w0 C hrc hrs hK))
theorem s_tableswitch {m d pc : Nat} {ls st : List AV} {h : AH} {r : Int × AH} {q : MI} {self : Nat → List AV → List AV → AH → AR} {call : Nat → List AV → AH → AR} {lk : LK} {prs : List (Int × Nat)} {df lo hi : Int} {os : Array Int} (hself : ∀ pc ls st h r, self pc ls st h = some r → Sim G l m d pc ls st h r) (hcall : CallH G l d call) (hq : am_inf[m]? = some q) (e : stepF self call (.tableswitch df lo hi os) lk prs pc ls st h = some r)
    (hD : ∃ nz, decode q.2.1 pc = .ok (.tableswitch df lo hi os, nz) ∧ (isSw (.tableswitch df lo hi os) = false → nz = lenI (.tableswitch df lo hi os))) (hL : chkL q.2.2.2.2.2.2.2.2 pc (.tableswitch df lo hi os) lk prs = true) (hRk : am_rk q (pc, .tableswitch df lo hi os, lk, prs) = true) : Sim G l m d pc ls st h r := by
  obtain ⟨nn, hd, hnn⟩ := hD
  dsimp only [stepF, am_b2, am_l2] at e
  have eQ := p1_inv e
  clear e
  obtain ⟨x, st1, rfl, e⟩ := eQ
  have hL : (decide ((pc : Int) + df = (lk.1 : Int)) && decide (hi = lo + (os.toList.length : Int) - 1) && decide (prs.map Prod.fst = (List.range os.toList.length).map (fun (j : Nat) => lo + (j : Int))) && decide (prs.map (fun q => (q.2 : Int)) = os.toList.map (fun f => (pc : Int) + f))) = true := hL
  simp only [Bool.and_eq_true, decide_eq_true_eq] at hL
  have hm : (∃ te, tgs r.2 = tgs h ++ te) ∧ tot h ≤ tot r.2 := by
    rcases sw_inv e with ⟨_, _, _, e⟩ | ⟨_, e⟩
    · exact (hself _ _ _ _ _ e).1
    · exact (hself _ _ _ _ _ e).1
  exact sim_or hq hm (fun p ev R s mm args below meth c Q n0 t0 as0 w0 C hrc hrs hK => g_tsw C.2.1 C.2.2.1 hd hL.1.1.1 hL.1.1.2 hL.1.2 hL.2 e (fun t e => (hself _ _ _ _ _ e).2 q p ev R s mm args below meth c Q n0 t0 as0 w0 C hrc hrs hK))
theorem s_lookupswitch {m d pc : Nat} {ls st : List AV} {h : AH} {r : Int × AH} {q : MI} {self : Nat → List AV → List AV → AH → AR} {call : Nat → List AV → AH → AR} {lk : LK} {prs : List (Int × Nat)} {df : Int} {ps : Array (Int × Int)} (hself : ∀ pc ls st h r, self pc ls st h = some r → Sim G l m d pc ls st h r) (hcall : CallH G l d call) (hq : am_inf[m]? = some q) (e : stepF self call (.lookupswitch df ps) lk prs pc ls st h = some r)
    (hD : ∃ nz, decode q.2.1 pc = .ok (.lookupswitch df ps, nz) ∧ (isSw (.lookupswitch df ps) = false → nz = lenI (.lookupswitch df ps))) (hL : chkL q.2.2.2.2.2.2.2.2 pc (.lookupswitch df ps) lk prs = true) (hRk : am_rk q (pc, .lookupswitch df ps, lk, prs) = true) : Sim G l m d pc ls st h r := by
  obtain ⟨nn, hd, hnn⟩ := hD
  dsimp only [stepF, am_b2, am_l2] at e
  have eQ := p1_inv e
  clear e
  obtain ⟨x, st1, rfl, e⟩ := eQ
  have hL : (decide ((pc : Int) + df = (lk.1 : Int)) && (ps.toList.zip (ps.toList.drop 1)).all (fun (a, next) => a.1 < next.1) && decide (prs.map (fun q => (q.1, (q.2 : Int))) = ps.toList.map (fun a => (a.1, (pc : Int) + a.2)))) = true := hL
  rw [Bool.and_eq_true, Bool.and_eq_true, decide_eq_true_eq, decide_eq_true_eq] at hL
  have hm : (∃ te, tgs r.2 = tgs h ++ te) ∧ tot h ≤ tot r.2 := by
    rcases sw_inv e with ⟨_, _, _, e⟩ | ⟨_, e⟩
    · exact (hself _ _ _ _ _ e).1
    · exact (hself _ _ _ _ _ e).1
  exact sim_or hq hm (fun p ev R s mm args below meth c Q n0 t0 as0 w0 C hrc hrs hK => g_lsw C.2.1 C.2.2.1 hd hL.1.1 hL.1.2 hL.2 e (fun t e => (hself _ _ _ _ _ e).2 q p ev R s mm args below meth c Q n0 t0 as0 w0 C hrc hrs hK))
end SIM
