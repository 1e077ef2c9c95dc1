/-! The check of a row: the code's bytes decode to it, its links are words of the tables. -/
def WSg : List Cond := lw_tbl.filter goodWord
theorem mem_g {w : Cond} {i : Nat} (h : lw_tbl[i]? = some w) (hg : goodWord w = true) : w ∈ WSg := List.mem_filter.mpr ⟨List.mem_of_getElem? h, hg⟩
theorem mem_l {l : List Cond} {w : Cond} {i : Nat} (h : l[i]? = some w) : w ∈ l := List.mem_of_getElem? h
abbrev clA : List vw_C := [(RX0, TX0, 6), (RX1, TX1, 6), (RX2, TX2, 1), (RX3, TX3, 2), (RX5, TX5, 5), (RX6, TX6, 5), (RX7, TX7, 11), (RX8, TX8, 31)]
def cN (t : Nat) : String := match t with
  | 0 => RX0 | 1 => RX1 | 2 => RX2 | 3 => RX3 | 4 => RX5 | 5 => RX6 | 6 => RX7 | 7 => RX8 | _ => RX4
def cT (t : Nat) : u_T := match t with
  | 0 => TX0 | 1 => TX1 | 2 => TX2 | 3 => TX3 | 4 => TX5 | 5 => TX6 | 6 => TX7 | _ => TX8
def cTy (t : Nat) : Nat → FieldType := match t with
  | 0 => tyX0 | 1 => tyX1 | 2 => tyX2 | 3 => tyX3 | 4 => tyX5 | 5 => tyX6 | 6 => tyX7 | _ => tyX8
def cF (t : Nat) : Nat := match t with
  | 0 => 6 | 1 => 6 | 2 => 1 | 3 => 2 | 4 => 5 | 5 => 5 | 6 => 11 | _ => 31
/-- the places of Text's String constants in its pool, and their texts -/
def strI : List (Nat × String) := [(86, "plain"), (92, "deep"), (94, "rich"), (96, "barred"), (98, "mean"), (100, "board"), (102, "seeds"), (104, "barn"), (106, "turn")]
def arr0 : MethodName := ⟨"java/lang/System", "arraycopy", "(Ljava/lang/Object;ILjava/lang/Object;II)V"⟩
def mi0 : MI := (yL_law, cL_law, 0, none, 0, 0, 0, 0, 0)
/-- what an entry of the link tables says -/
def lnkOK (o : Nat) (e : Nat × Nat × Nat × Int) : Prop := match e.2.1 with
  | 0 => Cond.fieldLink (ownN o) e.1 (cN e.2.2.1) (cT e.2.2.1 e.2.2.2.toNat).2.1 (cT e.2.2.1 e.2.2.2.toNat).2.2.1 ∈ WSg
  | 1 => Cond.fieldLinkNest (ownN o) e.1 (cN e.2.2.1) (cT e.2.2.1 e.2.2.2.toNat).2.1 (cT e.2.2.1 e.2.2.2.toNat).2.2.1 RX7 ∈ nestF
  | 2 => Cond.methodLink (ownN o) e.1 (am_inf.getD e.2.2.1 mi0).1 ∈ WSg
  | 3 => Cond.methodLinkNest (ownN o) e.1 (am_inf.getD e.2.2.1 mi0).1 RX7 ∈ nestM
  | 4 => Cond.classLink (ownN o) e.1 (cN e.2.2.1) ∈ WSg
  | 5 => Cond.constant (ownN o) e.1 (Int32.ofInt e.2.2.2) ∈ WSg
  | 6 => Cond.constantLong (ownN o) e.1 (Int64.ofInt e.2.2.2) ∈ WSg
  | 7 => Cond.methodLink (ownN o) e.1 Lib.objectInit ∈ WSg
  | 8 => Cond.methodLink (ownN o) e.1 arr0 ∈ WSg
  | 9 => Cond.methodLink (ownN o) e.1 yJ0_length_8abf5 ∈ WSg
  | 10 => Cond.methodLink (ownN o) e.1 yJ0_charAt_5068e ∈ WSg
  | 11 => Cond.fieldLink (ownN o) e.1 "SownSeeds$Kind" "OVER" "[I" ∈ WSg
  | 12 => ownN o = RX6 ∧ 0 ≤ e.2.2.2 ∧ e.2.2.2 < 9 ∧ (strI.getD e.2.2.2.toNat (0, "")).1 = e.1
  | 13 => Cond.methodLink (ownN o) e.1 Lib.Math.max.name ∈ WSg
  | 14 => Cond.methodLink (ownN o) e.1 Lib.Math.min.name ∈ WSg
  | _ => False
/-- what the tables say of a method -/
def infOK (q : MI) : Prop := ownN q.2.2.2.2.2.2.2.2 = q.1.cls ∧ cN q.2.2.2.2.2.2.2.1 = (if q.2.2.2.2.2.2.2.1 ≤ 8 then q.1.cls else cN q.2.2.2.2.2.2.2.1) ∧ (parseMethodDescriptor q.1.desc).map (fun d => d.parameters.length) = some q.2.2.2.2.2.2.1 ∧
  (plainName q.1.cls = true ∧ q.1.cls ≠ "java/lang/invoke/MethodHandle" ∧ q.1.cls ≠ "java/lang/invoke/VarHandle") ∧
  (q.1 ≠ yL_law → (Cond.code q.1 q.2.1 q.2.2.1 q.2.2.2.1 ∈ WSg ∧ Cond.initialized q.1.cls ∈ WSg ∧ (match q.2.2.2.2.2.1 with
    | 0 => Cond.static q.1 ∈ WSg
    | 1 => Cond.instanceMethod q.1 ∈ WSg ∧ Cond.selects q.1.cls q.1 q.1 ∈ WSg ∧ q.1.cls = cN q.2.2.2.2.2.2.2.1
    | _ => Cond.instanceMethod q.1 ∈ WSg ∧ q.1.name = "<init>" ∧ q.2.2.2.1 = none)))
def isSw : Instr → Bool
  | .tableswitch _ _ _ _ => true
  | .lookupswitch _ _ => true
  | _ => false
def lenI : Instr → Nat
  | .bipush _ | .ldc _ | .iload _ | .lload _ | .aload _ | .istore _ | .lstore _ | .astore _ | .newarray _ => 2
  | .sipush _ | .ldc_w _ | .ldc2_w _ | .iinc _ _ | .goto _ | .ifCond _ _ | .if_icmp _ _ | .getfield _ | .putfield _ | .getstatic _ | .new _ | .anewarray _ | .invokestatic _ | .invokevirtual _ | .invokespecial _ => 3
  | _ => 1
def chkD (cc : ByteArray) (pc : Nat) (ins : Instr) : Bool := match decode cc pc with
  | .ok q => decide (q.1 = ins) && (isSw ins || Nat.beq q.2 (lenI ins))
  | .error _ => false
theorem chkD_spec {cc : ByteArray} {pc : Nat} {ins : Instr} (h : chkD cc pc ins = true) : ∃ n, decode cc pc = .ok (ins, n) ∧ (isSw ins = false → n = lenI ins) := by
  unfold chkD at h
  split at h
  next q hq =>
    simp only [Bool.and_eq_true, decide_eq_true_eq, Bool.or_eq_true] at h
    refine ⟨q.2, by rw [hq, ← h.1], fun e => ?_⟩
    rcases h.2 with h2 | h2
    · rw [e] at h2; cases h2
    · exact Nat.eq_of_beq_eq_true h2
  next => cases h
def fndL : List (Nat × Nat × Nat × Int) → Nat → Nat × Nat × Int
  | [], _ => (99, 0, 0)
  | e :: r, i => cond (Nat.beq e.1 i) e.2 (fndL r i)
theorem fndL_in {l : List (Nat × Nat × Nat × Int)} {i : Nat} (h : (fndL l i).1 ≠ 99) : (i, fndL l i) ∈ l := by
  induction l with
  | nil => exact absurd rfl h
  | cons e r ih =>
    simp only [fndL] at h ⊢
    cases hb : Nat.beq e.1 i with
    | true =>
      rw [hb] at h
      have : e.1 = i := Nat.eq_of_beq_eq_true hb
      subst this
      exact List.mem_cons_self
    | false => rw [hb] at h; exact List.mem_cons_of_mem _ (ih h)
/-- what a method's number tells: kind, parameters, tag of the answer, tag of its class -/
def infN (m : Nat) : Nat × Nat × Nat × Nat := match am_inf[m]? with
  | none => (9, 0, 0, 0)
  | some q => (q.2.2.2.2.2.1, q.2.2.2.2.2.2.1, q.2.2.2.2.1, q.2.2.2.2.2.2.2.1)
/-- which link a row wants -/
def chkL (o pc : Nat) (ins : Instr) (lk : LK) (prs : List (Int × Nat)) : Bool := match ins with
  | .iconst n => decide (-128 ≤ n ∧ n < 128)
  | .bipush n => decide (-128 ≤ n ∧ n < 128)
  | .sipush n => decide (-32768 ≤ n ∧ n < 32768)
  | .ldc i => cond (Nat.beq lk.1 0) (decide (-2147483648 ≤ lk.2.2.2 ∧ lk.2.2.2 < 2147483648) && decide (fndL (lkT o) i = (5, 0, lk.2.2.2))) (decide (fndL (lkT o) i = (12, 0, lk.2.2.2)))
  | .ldc_w i => decide (-2147483648 ≤ lk.2.2.2 ∧ lk.2.2.2 < 2147483648) && decide (fndL (lkT o) i = (5, 0, lk.2.2.2))
  | .ldc2_w i => decide (-9223372036854775808 ≤ lk.2.2.2 ∧ lk.2.2.2 < 9223372036854775808) && decide (fndL (lkT o) i = (6, 0, lk.2.2.2))
  | .lconst n => decide (lk.2.2.2 = (n.val : Int))
  | .iload_n n | .lload_n n | .aload_n n | .istore_n n | .lstore_n n | .astore_n n => Nat.beq n.val lk.1
  | .iinc _ n => decide (-128 ≤ n ∧ n < 128)
  | .goto f => decide ((pc : Int) + f = (lk.1 : Int))
  | .ifCond _ f => decide ((pc : Int) + f = (lk.1 : Int))
  | .if_icmp _ f => decide ((pc : Int) + f = (lk.1 : Int))
  | .tableswitch d lo hi os => decide ((pc : Int) + d = (lk.1 : Int)) && decide (hi = lo + (os.toList.length : Int) - 1) && decide (prs.map Prod.fst = (List.range os.toList.length).map (fun (j : Nat) => lo + (j : Int))) && decide (prs.map (fun q => (q.2 : Int)) = os.toList.map (fun f => (pc : Int) + f))
  | .lookupswitch d ps => decide ((pc : Int) + d = (lk.1 : Int)) && (ps.toList.zip (ps.toList.drop 1)).all (fun (a, next) => a.1 < next.1) && decide (prs.map (fun q => (q.1, (q.2 : Int))) = ps.toList.map (fun a => (a.1, (pc : Int) + a.2)))
  | .getfield i => Nat.ble lk.1 7 && Nat.blt lk.2.1 (cF lk.1) && (decide (fndL (lkT o) i = (0, lk.1, (lk.2.1 : Int))) || decide (fndL (lkT o) i = (1, lk.1, (lk.2.1 : Int)))) && Nat.beq ((am_ft lk.1).getD lk.2.1 1) lk.2.2.1
  | .putfield i => Nat.ble lk.1 7 && Nat.blt lk.2.1 (cF lk.1) && (decide (fndL (lkT o) i = (0, lk.1, (lk.2.1 : Int))) || (decide (fndL (lkT o) i = (1, lk.1, (lk.2.1 : Int))) && !(cT lk.1 lk.2.1).2.2.2)) && (match (cTy lk.1 lk.2.1) with
    | .int => Nat.beq lk.2.2.1 0
    | .boolean => Nat.beq lk.2.2.1 6
    | _ => Nat.ble 100 lk.2.2.1 && Nat.beq ((am_ft lk.1).getD lk.2.1 1) lk.2.2.1) && (!((cT lk.1 lk.2.1).2.2.2) || Nat.beq o lk.1)
  | .getstatic i => decide (fndL (lkT o) i = (11, 0, 0))
  | .iaload => Nat.beq lk.1 20 || Nat.beq lk.1 26
  | .aaload => (Nat.beq lk.1 24 && Nat.beq lk.2.1 100) || (Nat.beq lk.1 25 && Nat.beq lk.2.1 101)
  | .aastore => (Nat.beq lk.1 24 && Nat.beq lk.2.1 100) || (Nat.beq lk.1 25 && Nat.beq lk.2.1 101)
  | .new i => Nat.ble lk.1 7 && decide (fndL (lkT o) i = (4, lk.1, 0))
  | .newarray a => (match newarray.typeOf a with
    | .int => Nat.beq lk.1 20
    | .boolean => Nat.beq lk.1 21
    | .char => Nat.beq lk.1 22
    | .long => Nat.beq lk.1 23
    | _ => false)
  | .anewarray i => (Nat.beq lk.1 24 && decide (fndL (lkT o) i = (4, 0, 0))) || (Nat.beq lk.1 25 && decide (fndL (lkT o) i = (4, 1, 0)))
  | .invokestatic i => cond (Nat.beq lk.1 1003) (decide (fndL (lkT o) i = (8, 0, 0))) (cond (Nat.beq lk.1 1001) (decide (fndL (lkT o) i = (13, 0, 0))) (cond (Nat.beq lk.1 1002) (decide (fndL (lkT o) i = (14, 0, 0)))
      ((decide (fndL (lkT o) i = (2, lk.1, 0)) || decide (fndL (lkT o) i = (3, lk.1, 0))) && decide (infN lk.1 = (0, lk.2.1, lk.2.2.1, (infN lk.1).2.2.2)) && decide (lk.2.2.2 = 0) && !Nat.beq lk.1 202)))
  | .invokevirtual i => cond (Nat.beq lk.1 1004) (decide (fndL (lkT o) i = (9, 0, 0))) (cond (Nat.beq lk.1 1005) (decide (fndL (lkT o) i = (10, 0, 0)))
      (decide (fndL (lkT o) i = (2, lk.1, 0)) && decide (infN lk.1 = (1, lk.2.1 - 1, lk.2.2.1, (infN lk.1).2.2.2)) && Nat.ble 1 lk.2.1 && decide (lk.2.2.2 = 100 + ((infN lk.1).2.2.2 : Int)) && Nat.ble (infN lk.1).2.2.2 7))
  | .invokespecial i => cond (Nat.beq lk.1 999) (decide (fndL (lkT o) i = (7, 0, 0)) && Nat.ble 100 lk.2.1)
      ((decide (fndL (lkT o) i = (2, lk.1, 0)) || decide (fndL (lkT o) i = (3, lk.1, 0))) && decide (infN lk.1 = (2, lk.2.1 - 1, 9, (infN lk.1).2.2.2)) && Nat.beq lk.2.2.1 9 && Nat.ble 1 lk.2.1 && decide (lk.2.2.2 = 100 + ((infN lk.1).2.2.2 : Int)) && Nat.ble (infN lk.1).2.2.2 7)
  | _ => true
def am_chk (o : Nat) (cc : ByteArray) (q : AQ) : Bool := chkD cc q.1 q.2.1 && chkL o q.1 q.2.1 q.2.2.1 q.2.2.2
