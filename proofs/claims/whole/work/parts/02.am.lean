/-! AN ABSTRACT MACHINE for the claim's classes: tagged numbers, a heap of rows of whole numbers, one step a function.
Tags of values: 0 int, 2 long, 3 a String constant (its number), 8 a long's second half, 9 nothing, 100 + t a reference to a cell of tag t (its place in the heap).
Tags of cells: 0 Board, 1 Box, 2 Boxes, 3 Foresight, 4 Sightings, 5 Text, 6 SownSeeds, 7 SownSeedsModel, 20 int[], 21 boolean[], 22 char[], 23 long[], 24 Board[], 25 Box[], 26 an int[] that is only read. -/
abbrev AV : Type := Nat × Int
abbrev AH : Type := List (Nat × List Int)
abbrev AR : Type := Option (Int × AH)
abbrev LK : Type := Nat × Nat × Nat × Int
abbrev AQ : Type := Nat × Instr × LK × List (Int × Nat)
/-- a function that no unfolding looks into -/
noncomputable def op_ {α : Type} (f : α) : α := Classical.choose (⟨f, rfl⟩ : ∃ g : α, g = f)
theorem op_eq {α : Type} (f : α) : op_ f = f := Classical.choose_spec (⟨f, rfl⟩ : ∃ g : α, g = f)
noncomputable def w32 : Int → Int := op_ (fun x => (Int32.ofInt x).toInt)
theorem w32_def (x : Int) : w32 x = (Int32.ofInt x).toInt := by unfold w32; rw [op_eq]
noncomputable def w64 : Int → Int := op_ (fun x => (Int64.ofInt x).toInt)
theorem w64_def (x : Int) : w64 x = (Int64.ofInt x).toInt := by unfold w64; rw [op_eq]
noncomputable def a_add : Int → Int → Int := op_ (fun x y => w32 (x + y))
theorem a_add_def (x y : Int) : a_add x y = w32 (x + y) := by unfold a_add; rw [op_eq]
noncomputable def a_sub : Int → Int → Int := op_ (fun x y => w32 (x - y))
theorem a_sub_def (x y : Int) : a_sub x y = w32 (x - y) := by unfold a_sub; rw [op_eq]
noncomputable def a_mul : Int → Int → Int := op_ (fun x y => w32 (x * y))
theorem a_mul_def (x y : Int) : a_mul x y = w32 (x * y) := by unfold a_mul; rw [op_eq]
noncomputable def a_neg : Int → Int := op_ (fun x => w32 (-x))
theorem a_neg_def (x : Int) : a_neg x = w32 (-x) := by unfold a_neg; rw [op_eq]
noncomputable def a_div : Int → Int → Int := op_ (fun x y => (Int32.ofInt x / Int32.ofInt y).toInt)
theorem a_div_def (x y : Int) : a_div x y = (Int32.ofInt x / Int32.ofInt y).toInt := by unfold a_div; rw [op_eq]
noncomputable def a_rem : Int → Int → Int := op_ (fun x y => (Int32.ofInt x - Int32.ofInt x / Int32.ofInt y * Int32.ofInt y).toInt)
theorem a_rem_def (x y : Int) : a_rem x y = (Int32.ofInt x - Int32.ofInt x / Int32.ofInt y * Int32.ofInt y).toInt := by unfold a_rem; rw [op_eq]
noncomputable def a_and : Int → Int → Int := op_ (fun x y => (Int32.ofInt x &&& Int32.ofInt y).toInt)
theorem a_and_def (x y : Int) : a_and x y = (Int32.ofInt x &&& Int32.ofInt y).toInt := by unfold a_and; rw [op_eq]
noncomputable def a_or : Int → Int → Int := op_ (fun x y => (Int32.ofInt x ||| Int32.ofInt y).toInt)
theorem a_or_def (x y : Int) : a_or x y = (Int32.ofInt x ||| Int32.ofInt y).toInt := by unfold a_or; rw [op_eq]
noncomputable def a_shl : Int → Int → Int := op_ (fun x y => (Int32.ofInt x <<< (Int32.ofInt y &&& 31)).toInt)
theorem a_shl_def (x y : Int) : a_shl x y = (Int32.ofInt x <<< (Int32.ofInt y &&& 31)).toInt := by unfold a_shl; rw [op_eq]
noncomputable def a_shr : Int → Int → Int := op_ (fun x y => (Int32.ofInt x >>> (Int32.ofInt y &&& 31)).toInt)
theorem a_shr_def (x y : Int) : a_shr x y = (Int32.ofInt x >>> (Int32.ofInt y &&& 31)).toInt := by unfold a_shr; rw [op_eq]
noncomputable def a_ushr : Int → Int → Int := op_ (fun x y => ((Int32.ofInt x).toUInt32 >>> ((Int32.ofInt y).toUInt32 &&& Int32.toUInt32 31)).toInt32.toInt)
theorem a_ushr_def (x y : Int) : a_ushr x y = ((Int32.ofInt x).toUInt32 >>> ((Int32.ofInt y).toUInt32 &&& Int32.toUInt32 31)).toInt32.toInt := by unfold a_ushr; rw [op_eq]
noncomputable def a_i2c : Int → Int := op_ (fun x => ((Int32.ofInt x).toUInt32 % 65536).toInt32.toInt)
theorem a_i2c_def (x : Int) : a_i2c x = ((Int32.ofInt x).toUInt32 % 65536).toInt32.toInt := by unfold a_i2c; rw [op_eq]
noncomputable def a_ladd : Int → Int → Int := op_ (fun x y => w64 (x + y))
theorem a_ladd_def (x y : Int) : a_ladd x y = w64 (x + y) := by unfold a_ladd; rw [op_eq]
noncomputable def a_lmul : Int → Int → Int := op_ (fun x y => w64 (x * y))
theorem a_lmul_def (x y : Int) : a_lmul x y = w64 (x * y) := by unfold a_lmul; rw [op_eq]
noncomputable def a_ldiv : Int → Int → Int := op_ (fun x y => (Int64.ofInt x / Int64.ofInt y).toInt)
theorem a_ldiv_def (x y : Int) : a_ldiv x y = (Int64.ofInt x / Int64.ofInt y).toInt := by unfold a_ldiv; rw [op_eq]
noncomputable def a_lrem : Int → Int → Int := op_ (fun x y => (Int64.ofInt x - Int64.ofInt x / Int64.ofInt y * Int64.ofInt y).toInt)
theorem a_lrem_def (x y : Int) : a_lrem x y = (Int64.ofInt x - Int64.ofInt x / Int64.ofInt y * Int64.ofInt y).toInt := by unfold a_lrem; rw [op_eq]
noncomputable def a_lor : Int → Int → Int := op_ (fun x y => (Int64.ofInt x ||| Int64.ofInt y).toInt)
theorem a_lor_def (x y : Int) : a_lor x y = (Int64.ofInt x ||| Int64.ofInt y).toInt := by unfold a_lor; rw [op_eq]
noncomputable def a_lshl : Int → Int → Int := op_ (fun x y => (Int64.ofInt x <<< ((Int32.ofInt y).toInt64 &&& 63)).toInt)
theorem a_lshl_def (x y : Int) : a_lshl x y = (Int64.ofInt x <<< ((Int32.ofInt y).toInt64 &&& 63)).toInt := by unfold a_lshl; rw [op_eq]
noncomputable def a_max : Int → Int → Int := op_ (fun x y => if x < y then y else x)
theorem a_max_def (x y : Int) : a_max x y = if x < y then y else x := by unfold a_max; rw [op_eq]
noncomputable def a_min : Int → Int → Int := op_ (fun x y => if y < x then y else x)
theorem a_min_def (x y : Int) : a_min x y = if y < x then y else x := by unfold a_min; rw [op_eq]
noncomputable def a_lcmp : Int → Int → Int := op_ (fun x y => if y < x then 1 else if x = y then 0 else -1)
theorem a_lcmp_def (x y : Int) : a_lcmp x y = if y < x then 1 else if x = y then 0 else -1 := by unfold a_lcmp; rw [op_eq]
def nthL {α : Type} : List α → Nat → Option α
  | [], _ => none
  | a :: _, 0 => some a
  | _ :: l, n + 1 => nthL l n
def setL {α : Type} : List α → Nat → α → List α
  | [], _, _ => []
  | _ :: l, 0, v => v :: l
  | a :: l, n + 1, v => a :: setL l n v
def catL : List AV → Nat
  | [] => 0
  | v :: l => cond (Nat.beq v.1 2) (2 + catL l) (1 + catL l)
/-- the row of a cell of this tag -/
def am_cl (t : Nat) (h : AH) (a : Int) : Option (List Int) := if 0 ≤ a then (match h[a.toNat]? with
  | some c => if c.1 = t then some c.2 else none
  | none => none) else none
def rdf (t : Nat) (h : AH) (a : Int) (k : Nat) : Option Int := (am_cl t h a).bind (fun xs => xs[k]?)
def rdr (t : Nat) (h : AH) (a : Int) (k : Nat) : Option Int := (rdf t h a k).bind (fun v => if 0 ≤ v then some v else none)
def rda (t : Nat) (h : AH) (a i : Int) : Option Int := if 0 ≤ i then rdf t h a i.toNat else none
def rdar (t : Nat) (h : AH) (a i : Int) : Option Int := if 0 ≤ i then rdr t h a i.toNat else none
def wrf (t : Nat) (h : AH) (a : Int) (k : Nat) (v : Int) : Option AH := (am_cl t h a).bind (fun xs => if k < xs.length then some (h.set a.toNat (t, xs.set k v)) else none)
def wrfb (t : Nat) (h : AH) (a : Int) (k : Nat) (v : Int) : Option AH := if v = 0 ∨ v = 1 then wrf t h a k v else none
def wra (t : Nat) (h : AH) (a i v : Int) : Option AH := if 0 ≤ i then wrf t h a i.toNat v else none
def wrab (t : Nat) (h : AH) (a i v : Int) : Option AH := if v = 0 ∨ v = 1 then wra t h a i v else none
def wrac (t : Nat) (h : AH) (a i v : Int) : Option AH := if 0 ≤ v ∧ v < 65536 then wra t h a i v else none
def a_cpy (xs ys : List Int) (n : Int) : List Int := xs.take n.toNat ++ ys.drop n.toNat
/-- System.arraycopy(a, 0, b, 0, n) of rows of ints -/
def wrcp (h : AH) (a b n : Int) : Option AH := (am_cl 20 h a).bind (fun xs => (am_cl 20 h b).bind (fun ys => if 0 ≤ n ∧ n.toNat ≤ xs.length ∧ n.toNat ≤ ys.length then some (h.set b.toNat (20, a_cpy xs ys n)) else none))
/-- the String constants of the class Text, by their numbers: plain deep rich barred mean board seeds barn turn -/
def am_str : List (List Int) := [[112, 108, 97, 105, 110], [100, 101, 101, 112], [114, 105, 99, 104], [98, 97, 114, 114, 101, 100], [109, 101, 97, 110], [98, 111, 97, 114, 100], [115, 101, 101, 100, 115], [98, 97, 114, 110], [116, 117, 114, 110]]
def strl (k : Int) : Option Int := (am_str[k.toNat]?).bind (fun s => if 0 ≤ k then some (Int.ofNat s.length) else none)
def strc (k i : Int) : Option Int := (am_str[k.toNat]?).bind (fun s => if 0 ≤ k ∧ 0 ≤ i then s[i.toNat]? else none)
/-- the tags of a kind's fields, in their order -/
def am_ft : Nat → List Nat
  | 0 => [120, 120, 120, 0, 0, 0]
  | 1 => [120, 120, 0, 0, 0, 0]
  | 2 => [125]
  | 3 => [124, 0]
  | 4 => [120, 120, 121, 121, 0]
  | 5 => [122, 0, 0, 0, 0]
  | 6 => [100, 100, 100, 124, 124, 121, 105, 103, 104, 102, 0]
  | 7 => [120, 120, 120, 0, 0, 0, 0, 0, 0, 120, 120, 0, 120, 0, 120, 120, 120, 120, 121, 120, 0, 123, 120, 0, 120, 120, 120, 120, 120, 120, 120]
  | _ => []
def am_ini (t : Nat) : List Int := (am_ft t).map (fun g => cond (Nat.ble 100 g) (-1) 0)
def am_p1 (t : Nat) (st : List AV) (k : Int → List AV → AR) : AR := match st with
  | [] => none
  | v :: r => cond (Nat.beq v.1 t) (k v.2 r) none
def am_ld (t i : Nat) (ls st : List AV) (k : List AV → AR) : AR := match nthL ls i with
  | none => none
  | some v => cond (Nat.beq v.1 t) (k ((t, v.2) :: st)) none
def am_ldl (i : Nat) (ls st : List AV) (k : List AV → AR) : AR := match nthL ls i with
  | none => none
  | some v => match nthL ls (i + 1) with
    | none => none
    | some u => cond (Nat.beq v.1 2 && Nat.beq u.1 8) (k ((2, v.2) :: st)) none
def am_isr (t : Nat) : Bool := Nat.ble 100 t || Nat.beq t 3
def am_lda (i : Nat) (ls st : List AV) (k : List AV → AR) : AR := match nthL ls i with
  | none => none
  | some v => cond (am_isr v.1) (k (v :: st)) none
def am_st (t i : Nat) (ls st : List AV) (k : List AV → List AV → AR) : AR := match st with
  | [] => none
  | v :: r => cond (Nat.beq v.1 t && Nat.ble (i + 1) ls.length) (k (setL ls i v) r) none
def am_stl (i : Nat) (ls st : List AV) (k : List AV → List AV → AR) : AR := match st with
  | [] => none
  | v :: r => cond (Nat.beq v.1 2 && Nat.ble (i + 2) ls.length) (k (setL (setL ls i v) (i + 1) (8, 0)) r) none
def am_sta (i : Nat) (ls st : List AV) (k : List AV → List AV → AR) : AR := match st with
  | [] => none
  | v :: r => cond (am_isr v.1 && Nat.ble (i + 1) ls.length) (k (setL ls i v) r) none
def am_br (c : ClassFile.Cond) (x y : Int) (a b : AR) : AR := match c with
  | .eq => if x = y then a else b
  | .ne => if x = y then b else a
  | .lt => if x < y then a else b
  | .ge => if x < y then b else a
  | .gt => if y < x then a else b
  | .le => if y < x then b else a
def am_sw (k : Nat → AR) (x : Int) : List (Int × Nat) → Nat → AR
  | [], d => k d
  | p :: r, d => if x = p.1 then k p.2 else am_sw k x r d
def am_pop : Nat → List AV → List AV → Option (List AV × List AV)
  | 0, st, acc => some (acc, st)
  | _ + 1, [], _ => none
  | n + 1, v :: st, acc => am_pop n st (v :: acc)
def am_b2 (f : Int → Int → Int) (st : List AV) (k : List AV → AR) : AR := am_p1 0 st (fun y st => am_p1 0 st (fun x st => k ((0, f x y) :: st)))
def am_l2 (f : Int → Int → Int) (st : List AV) (k : List AV → AR) : AR := am_p1 2 st (fun y st => am_p1 2 st (fun x st => k ((2, f x y) :: st)))
/-- the receiver is of this tag (0: there is none) -/
def am_rcv (t : Nat) (as : List AV) : Bool := Nat.beq t 0 || (match as with
  | [] => false
  | v :: _ => Nat.beq v.1 t)
def am_call (call : Nat → List AV → AH → AR) (lk : LK) (st : List AV) (h : AH) (k : List AV → AH → AR) : AR := match am_pop lk.2.1 st [] with
  | none => none
  | some ar => cond (Nat.ble (catL ar.2) 8 && am_rcv lk.2.2.2.toNat ar.1) ((call lk.1 ar.1 h).bind (fun q => cond (Nat.beq lk.2.2.1 9) (k ar.2 q.2) (k ((lk.2.2.1, q.1) :: ar.2) q.2))) none
/-- one step: the instruction, its link, what is on the stack and in the heap -/
noncomputable def stepF (self : Nat → List AV → List AV → AH → AR) (call : Nat → List AV → AH → AR) (ins : Instr) (lk : LK) (prs : List (Int × Nat)) (pc : Nat) (ls st : List AV) (h : AH) : AR :=
  match ins with
  | .iconst n => self (pc + 1) ls ((0, n) :: st) h
  | .bipush n => self (pc + 2) ls ((0, n) :: st) h
  | .sipush n => self (pc + 3) ls ((0, n) :: st) h
  | .ldc _ => cond (Nat.beq lk.1 0) (self (pc + 2) ls ((0, lk.2.2.2) :: st) h) (self (pc + 2) ls ((3, lk.2.2.2) :: st) h)
  | .ldc_w _ => self (pc + 3) ls ((0, lk.2.2.2) :: st) h
  | .ldc2_w _ => self (pc + 3) ls ((2, lk.2.2.2) :: st) h
  | .lconst _ => self (pc + 1) ls ((2, lk.2.2.2) :: st) h
  | .iload_n _ => am_ld 0 lk.1 ls st (fun st => self (pc + 1) ls st h)
  | .iload i => am_ld 0 i ls st (fun st => self (pc + 2) ls st h)
  | .lload_n _ => am_ldl lk.1 ls st (fun st => self (pc + 1) ls st h)
  | .lload i => am_ldl i ls st (fun st => self (pc + 2) ls st h)
  | .aload_n _ => am_lda lk.1 ls st (fun st => self (pc + 1) ls st h)
  | .aload i => am_lda i ls st (fun st => self (pc + 2) ls st h)
  | .istore_n _ => am_st 0 lk.1 ls st (fun ls st => self (pc + 1) ls st h)
  | .istore i => am_st 0 i ls st (fun ls st => self (pc + 2) ls st h)
  | .lstore_n _ => am_stl lk.1 ls st (fun ls st => self (pc + 1) ls st h)
  | .lstore i => am_stl i ls st (fun ls st => self (pc + 2) ls st h)
  | .astore_n _ => am_sta lk.1 ls st (fun ls st => self (pc + 1) ls st h)
  | .astore i => am_sta i ls st (fun ls st => self (pc + 2) ls st h)
  | .iinc i n => am_ld 0 i ls [] (fun q => am_p1 0 q (fun x _ => cond (Nat.ble (i + 1) ls.length) (self (pc + 3) (setL ls i (0, a_add x n)) st h) none))
  | .iadd => am_b2 a_add st (fun st => self (pc + 1) ls st h)
  | .isub => am_b2 a_sub st (fun st => self (pc + 1) ls st h)
  | .imul => am_b2 a_mul st (fun st => self (pc + 1) ls st h)
  | .iand => am_b2 a_and st (fun st => self (pc + 1) ls st h)
  | .ior => am_b2 a_or st (fun st => self (pc + 1) ls st h)
  | .ishl => am_b2 a_shl st (fun st => self (pc + 1) ls st h)
  | .ishr => am_b2 a_shr st (fun st => self (pc + 1) ls st h)
  | .iushr => am_b2 a_ushr st (fun st => self (pc + 1) ls st h)
  | .idiv => am_p1 0 st (fun y st => am_p1 0 st (fun x st => if y = 0 then none else self (pc + 1) ls ((0, a_div x y) :: st) h))
  | .irem => am_p1 0 st (fun y st => am_p1 0 st (fun x st => if y = 0 then none else self (pc + 1) ls ((0, a_rem x y) :: st) h))
  | .ineg => am_p1 0 st (fun x st => self (pc + 1) ls ((0, a_neg x) :: st) h)
  | .i2c => am_p1 0 st (fun x st => self (pc + 1) ls ((0, a_i2c x) :: st) h)
  | .i2l => am_p1 0 st (fun x st => self (pc + 1) ls ((2, x) :: st) h)
  | .l2i => am_p1 2 st (fun x st => self (pc + 1) ls ((0, w32 x) :: st) h)
  | .ladd => am_l2 a_ladd st (fun st => self (pc + 1) ls st h)
  | .lmul => am_l2 a_lmul st (fun st => self (pc + 1) ls st h)
  | .lor => am_l2 a_lor st (fun st => self (pc + 1) ls st h)
  | .ldiv => am_p1 2 st (fun y st => am_p1 2 st (fun x st => if y = 0 then none else self (pc + 1) ls ((2, a_ldiv x y) :: st) h))
  | .lrem => am_p1 2 st (fun y st => am_p1 2 st (fun x st => if y = 0 then none else self (pc + 1) ls ((2, a_lrem x y) :: st) h))
  | .lshl => am_p1 0 st (fun y st => am_p1 2 st (fun x st => self (pc + 1) ls ((2, a_lshl x y) :: st) h))
  | .lcmp => am_p1 2 st (fun y st => am_p1 2 st (fun x st => self (pc + 1) ls ((0, a_lcmp x y) :: st) h))
  | .dup => (match st with
    | [] => none
    | v :: r => cond (Nat.beq v.1 2) none (self (pc + 1) ls (v :: v :: r) h))
  | .dup2 => (match st with
    | v :: u :: r => cond (Nat.beq v.1 2 || Nat.beq u.1 2) none (self (pc + 1) ls (v :: u :: v :: u :: r) h)
    | _ => none)
  | .pop => (match st with
    | [] => none
    | v :: r => cond (Nat.beq v.1 2) none (self (pc + 1) ls r h))
  | .goto _ => self lk.1 ls st h
  | .ifCond c _ => am_p1 0 st (fun x st => am_br c x 0 (self lk.1 ls st h) (self (pc + 3) ls st h))
  | .if_icmp c _ => am_p1 0 st (fun y st => am_p1 0 st (fun x st => am_br c x y (self lk.1 ls st h) (self (pc + 3) ls st h)))
  | .tableswitch _ _ _ _ => am_p1 0 st (fun x st => am_sw (fun t => self t ls st h) x prs lk.1)
  | .lookupswitch _ _ => am_p1 0 st (fun x st => am_sw (fun t => self t ls st h) x prs lk.1)
  | .getfield _ => am_p1 (100 + lk.1) st (fun a st => cond (Nat.ble 100 lk.2.2.1) ((rdr lk.1 h a lk.2.1).bind (fun v => self (pc + 3) ls ((lk.2.2.1, v) :: st) h)) ((rdf lk.1 h a lk.2.1).bind (fun v => self (pc + 3) ls ((0, v) :: st) h)))
  | .putfield _ => cond (Nat.ble 100 lk.2.2.1) (am_p1 lk.2.2.1 st (fun v st => am_p1 (100 + lk.1) st (fun a st => (wrf lk.1 h a lk.2.1 v).bind (fun h => self (pc + 3) ls st h))))
      (am_p1 0 st (fun v st => am_p1 (100 + lk.1) st (fun a st => cond (Nat.beq lk.2.2.1 6) ((wrfb lk.1 h a lk.2.1 v).bind (fun h => self (pc + 3) ls st h)) ((wrf lk.1 h a lk.2.1 v).bind (fun h => self (pc + 3) ls st h)))))
  | .getstatic _ => self (pc + 3) ls ((126, 1) :: st) h
  | .iaload => am_p1 0 st (fun i st => am_p1 (100 + lk.1) st (fun a st => (rda lk.1 h a i).bind (fun v => self (pc + 1) ls ((0, v) :: st) h)))
  | .baload => am_p1 0 st (fun i st => am_p1 121 st (fun a st => (rda 21 h a i).bind (fun v => self (pc + 1) ls ((0, v) :: st) h)))
  | .caload => am_p1 0 st (fun i st => am_p1 122 st (fun a st => (rda 22 h a i).bind (fun v => self (pc + 1) ls ((0, v) :: st) h)))
  | .laload => am_p1 0 st (fun i st => am_p1 123 st (fun a st => (rda 23 h a i).bind (fun v => self (pc + 1) ls ((2, v) :: st) h)))
  | .aaload => am_p1 0 st (fun i st => am_p1 (100 + lk.1) st (fun a st => (rdar lk.1 h a i).bind (fun v => self (pc + 1) ls ((lk.2.1, v) :: st) h)))
  | .iastore => am_p1 0 st (fun v st => am_p1 0 st (fun i st => am_p1 120 st (fun a st => (wra 20 h a i v).bind (fun h => self (pc + 1) ls st h))))
  | .bastore => am_p1 0 st (fun v st => am_p1 0 st (fun i st => am_p1 121 st (fun a st => (wrab 21 h a i v).bind (fun h => self (pc + 1) ls st h))))
  | .castore => am_p1 0 st (fun v st => am_p1 0 st (fun i st => am_p1 122 st (fun a st => (wrac 22 h a i v).bind (fun h => self (pc + 1) ls st h))))
  | .lastore => am_p1 2 st (fun v st => am_p1 0 st (fun i st => am_p1 123 st (fun a st => (wra 23 h a i v).bind (fun h => self (pc + 1) ls st h))))
  | .aastore => am_p1 lk.2.1 st (fun v st => am_p1 0 st (fun i st => am_p1 (100 + lk.1) st (fun a st => (wra lk.1 h a i v).bind (fun h => self (pc + 1) ls st h))))
  | .arraylength => am_p1 126 st (fun a st => (am_cl 26 h a).bind (fun xs => self (pc + 1) ls ((0, Int.ofNat xs.length) :: st) h))
  | .new _ => self (pc + 3) ls ((100 + lk.1, Int.ofNat h.length) :: st) (h ++ [(lk.1, am_ini lk.1)])
  | .newarray _ => am_p1 0 st (fun n st => if 0 ≤ n ∧ n ≤ 1000 then self (pc + 2) ls ((100 + lk.1, Int.ofNat h.length) :: st) (h ++ [(lk.1, List.replicate n.toNat 0)]) else none)
  | .anewarray _ => am_p1 0 st (fun n st => if 0 ≤ n ∧ n ≤ 1000 then self (pc + 3) ls ((100 + lk.1, Int.ofNat h.length) :: st) (h ++ [(lk.1, List.replicate n.toNat (-1))]) else none)
  | .invokestatic _ => cond (Nat.beq lk.1 1003)
      (am_p1 0 st (fun n st => am_p1 0 st (fun dp st => am_p1 120 st (fun b st => am_p1 0 st (fun sp st => am_p1 120 st (fun a st => cond (Nat.ble (catL st) 8) (if sp = 0 ∧ dp = 0 then (wrcp h a b n).bind (fun h => self (pc + 3) ls st h) else none) none))))))
      (cond (Nat.beq lk.1 1001) (am_b2 a_max st (fun st => cond (Nat.ble (catL st) 8) (self (pc + 3) ls st h) none)) (cond (Nat.beq lk.1 1002) (am_b2 a_min st (fun st => cond (Nat.ble (catL st) 8) (self (pc + 3) ls st h) none))
        (am_call call lk st h (fun st h => self (pc + 3) ls st h))))
  | .invokevirtual _ => cond (Nat.beq lk.1 1004) (am_p1 3 st (fun k st => cond (Nat.ble (catL st) 8) ((strl k).bind (fun n => self (pc + 3) ls ((0, n) :: st) h)) none))
      (cond (Nat.beq lk.1 1005) (am_p1 0 st (fun i st => am_p1 3 st (fun k st => cond (Nat.ble (catL st) 8) ((strc k i).bind (fun n => self (pc + 3) ls ((0, n) :: st) h)) none)))
        (am_call call lk st h (fun st h => self (pc + 3) ls st h)))
  | .invokespecial _ => cond (Nat.beq lk.1 999) (am_p1 lk.2.1 st (fun _ st => cond (Nat.ble (catL st) 8) (self (pc + 3) ls st h) none))
      (am_call call lk st h (fun st h => self (pc + 3) ls st h))
  | .ireturn => am_p1 0 st (fun x st => (match st with
    | [] => cond (Nat.beq lk.1 6) (if x = 0 ∨ x = 1 then some (x, h) else none) (some (x, h))
    | _ :: _ => none))
  | .lreturn => am_p1 2 st (fun x st => (match st with
    | [] => some (x, h)
    | _ :: _ => none))
  | .areturn => am_p1 lk.1 st (fun x st => (match st with
    | [] => some (x, h)
    | _ :: _ => none))
  | .return_ => (match st with
    | [] => some (0, h)
    | _ :: _ => none)
  | _ => none
def fetL : List AQ → Nat → Option (Instr × LK × List (Int × Nat))
  | [], _ => none
  | q :: r, pc => cond (Nat.beq q.1 pc) (some q.2) (fetL r pc)
/-- arguments laid out as locals: a long takes two places -/
def argL : List AV → List AV
  | [] => []
  | v :: r => cond (Nat.beq v.1 2) (v :: (8, 0) :: argL r) (v :: argL r)
def padL : Nat → List AV → List AV
  | 0, _ => []
  | n + 1, [] => (9, 0) :: padL n []
  | n + 1, v :: r => v :: padL n r
