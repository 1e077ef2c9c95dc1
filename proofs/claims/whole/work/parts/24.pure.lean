/-! A step of the abstract machine is a step of the machine: pure instructions. -/
def Gd (G : AG) (p : Program) (l : Launch) (e : Env) (R : Room) (s : State) (mm : MethodId) (args : Array Value) (below : List Frame) (meth : Method) (c : Code) (Q : State → Prop) (nL n0 t0 : Nat) (as0 : List Nat) (pc : Nat) (ls st : List AV) (h : AH) : Prop :=
  ∀ (as : List Nat) (H : Heap) (locs : List Loc) (cells slots : Nat) (lsA : Array Slot), (∃ ex, as = as0 ++ ex) → RelP G as h H → va_S (gA G) s.heap H locs → LsR G as (tgs h) ls lsA nL → (∀ v ∈ st, okv (tgs h) v) → cells + n0 = h.length → slots + t0 = tot h →
    W p l e R s mm args below meth c H locs cells slots Q (F0 mm pc lsA (st.map (cvv G as)))
section PURE
variable {p : Program} {l : Launch} {e : Env} {R : Room} {s : State} {mm : MethodId} {args : Array Value} {below : List Frame} {meth : Method} {c : Code} {Q : State → Prop}
variable {G : AG} {nL n0 t0 pc : Nat} {as0 : List Nat} {ls st : List AV} {h : AH} {cc : ByteArray}

theorem oks_cons {tg : List Nat} {v : AV} {st : List AV} (h1 : okv tg v) (h2 : ∀ v ∈ st, okv tg v) : ∀ u ∈ v :: st, okv tg u := by
  intro u hu
  rcases List.mem_cons.mp hu with rfl | q
  · exact h1
  · exact h2 u q
theorem oks_tl {tg : List Nat} {v : AV} {st : List AV} (h2 : ∀ u ∈ v :: st, okv tg u) : ∀ u ∈ st, okv tg u := fun u hu => h2 u (List.mem_cons_of_mem _ hu)
theorem oks_hd {tg : List Nat} {v : AV} {st : List AV} (h2 : ∀ u ∈ v :: st, okv tg u) : okv tg v := h2 v List.mem_cons_self
theorem ok0I {tg : List Nat} {x : Int} (h : inI x) : okv tg (0, x) := Or.inl ⟨rfl, h⟩
theorem ok2L {tg : List Nat} {x : Int} (h : inL x) : okv tg (2, x) := Or.inr (Or.inl ⟨rfl, h⟩)
/-- a row that touches the stack alone -/
theorem g_st {pc' : Nat} {st' : List AV} (hN : Gd G p l e R s mm args below meth c Q nL n0 t0 as0 pc' ls st' h) (hok : (∀ v ∈ st, okv (tgs h) v) → ∀ v ∈ st', okv (tgs h) v)
    (row : ∀ (as : List Nat) (H : Heap) (locs : List Loc) (cells slots : Nat) (lsA : Array Slot), (∀ v ∈ st, okv (tgs h) v) → LsR G as (tgs h) ls lsA nL → W p l e R s mm args below meth c H locs cells slots Q (F0 mm pc' lsA (st'.map (cvv G as))) → W p l e R s mm args below meth c H locs cells slots Q (F0 mm pc lsA (st.map (cvv G as)))) : Gd G p l e R s mm args below meth c Q nL n0 t0 as0 pc ls st h :=
  fun as H locs cells slots lsA hE hR hS hL hO hc hs => row as H locs cells slots lsA hO hL (hN as H locs cells slots lsA hE hR hS hL (hok hO) hc hs)
theorem g_iconst (hx : p.tables.exec = Jvm.exec) (hb : c.code = cc) {n : Int} (hd : decode cc pc = .ok (.iconst n, 1)) (hn : inI n) (hN : Gd G p l e R s mm args below meth c Q nL n0 t0 as0 (pc + 1) ls ((0, n) :: st) h) : Gd G p l e R s mm args below meth c Q nL n0 t0 as0 pc ls st h :=
  g_st hN (fun hO => oks_cons (ok0I hn) hO) (fun as H locs cells slots lsA hO hL k => lv_iconst hx hb hd rfl k)
theorem g_bipush (hx : p.tables.exec = Jvm.exec) (hb : c.code = cc) {n : Int} (hd : decode cc pc = .ok (.bipush n, 2)) (hn : -128 ≤ n ∧ n < 128) (hN : Gd G p l e R s mm args below meth c Q nL n0 t0 as0 (pc + 2) ls ((0, n) :: st) h) : Gd G p l e R s mm args below meth c Q nL n0 t0 as0 pc ls st h :=
  g_st hN (fun hO => oks_cons (ok0I (oBi hn).2) hO) (fun as H locs cells slots lsA hO hL k => lv_bipush hx hb hd (oBi hn).1 k)
theorem g_sipush (hx : p.tables.exec = Jvm.exec) (hb : c.code = cc) {n : Int} (hd : decode cc pc = .ok (.sipush n, 3)) (hn : -32768 ≤ n ∧ n < 32768) (hN : Gd G p l e R s mm args below meth c Q nL n0 t0 as0 (pc + 3) ls ((0, n) :: st) h) : Gd G p l e R s mm args below meth c Q nL n0 t0 as0 pc ls st h :=
  g_st hN (fun hO => oks_cons (ok0I (oSi hn).2) hO) (fun as H locs cells slots lsA hO hL k => lv_sipush hx hb hd (oSi hn).1 k)
theorem g_lconst (hx : p.tables.exec = Jvm.exec) (hb : c.code = cc) {n : Fin 2} {z : Int} (hd : decode cc pc = .ok (.lconst n, 1)) (hn : z = (n.val : Int)) (hN : Gd G p l e R s mm args below meth c Q nL n0 t0 as0 (pc + 1) ls ((2, z) :: st) h) : Gd G p l e R s mm args below meth c Q nL n0 t0 as0 pc ls st h :=
  g_st hN (fun hO => oks_cons (ok2L (by have := n.isLt; constructor <;> omega)) hO) (fun as H locs cells slots lsA hO hL k => lv_lconst hx hb hd (by subst hn; rfl) k)
theorem g_ldcI (hx : p.tables.exec = Jvm.exec) (hb : c.code = cc) {own : String} {i : Nat} {z : Int} (hown : s.vm.findClass own = some mm.cls) (hw : (Cond.constant own i (Int32.ofInt z)).before args s = true) (hd : decode cc pc = .ok (.ldc i, 2)) (hn : inI z) (hN : Gd G p l e R s mm args below meth c Q nL n0 t0 as0 (pc + 2) ls ((0, z) :: st) h) : Gd G p l e R s mm args below meth c Q nL n0 t0 as0 pc ls st h :=
  g_st hN (fun hO => oks_cons (ok0I hn) hO) (fun as H locs cells slots lsA hO hL k => lv_ldc hx hb hown hw hd k)
theorem g_ldcw (hx : p.tables.exec = Jvm.exec) (hb : c.code = cc) {own : String} {i : Nat} {z : Int} (hown : s.vm.findClass own = some mm.cls) (hw : (Cond.constant own i (Int32.ofInt z)).before args s = true) (hd : decode cc pc = .ok (.ldc_w i, 3)) (hn : inI z) (hN : Gd G p l e R s mm args below meth c Q nL n0 t0 as0 (pc + 3) ls ((0, z) :: st) h) : Gd G p l e R s mm args below meth c Q nL n0 t0 as0 pc ls st h :=
  g_st hN (fun hO => oks_cons (ok0I hn) hO) (fun as H locs cells slots lsA hO hL k => lv_ldcw hx hb hown hw hd k)
theorem g_ldc2 (hx : p.tables.exec = Jvm.exec) (hb : c.code = cc) {own : String} {i : Nat} {z : Int} (hown : s.vm.findClass own = some mm.cls) (hw : (Cond.constantLong own i (Int64.ofInt z)).before args s = true) (hd : decode cc pc = .ok (.ldc2_w i, 3)) (hn : inL z) (hN : Gd G p l e R s mm args below meth c Q nL n0 t0 as0 (pc + 3) ls ((2, z) :: st) h) : Gd G p l e R s mm args below meth c Q nL n0 t0 as0 pc ls st h :=
  g_st hN (fun hO => oks_cons (ok2L hn) hO) (fun as H locs cells slots lsA hO hL k => lv_ldc2 hx hb hown hw hd k)
theorem g_ldcS (hx : p.tables.exec = Jvm.exec) (hb : c.code = cc) {own tx : String} {i : Nat} {z : Int} (hown : s.vm.findClass own = some mm.cls) (hw : vk_R own i tx (gK G z.toNat) s) (hd : decode cc pc = .ok (.ldc i, 2)) (hn : 0 ≤ z ∧ z < 9) (hN : Gd G p l e R s mm args below meth c Q nL n0 t0 as0 (pc + 2) ls ((3, z) :: st) h) : Gd G p l e R s mm args below meth c Q nL n0 t0 as0 pc ls st h :=
  g_st hN (fun hO => oks_cons (Or.inr (Or.inr (Or.inl ⟨rfl, hn⟩))) hO) (fun as H locs cells slots lsA hO hL k => va_ldcS hx hb hown hw hd k)
theorem cv_ref {as : List Nat} {v : AV} (ht : v.1 = 3 ∨ 100 ≤ v.1) : ∃ a, cvv G as v = .ref a := by
  obtain ⟨t, x⟩ := v
  rcases ht with q | q
  · have : t = 3 := q
    subst this; exact ⟨_, cv3 G as x⟩
  · exact ⟨_, cvR G as q x⟩
theorem g_iload_n (hx : p.tables.exec = Jvm.exec) (hb : c.code = cc) {k : Fin 4} {i : Nat} {x : Int} (hd : decode cc pc = .ok (.iload_n k, 1)) (hk : k.val = i) (hl : ls[i]? = some (0, x)) (hN : Gd G p l e R s mm args below meth c Q nL n0 t0 as0 (pc + 1) ls ((0, x) :: st) h) : Gd G p l e R s mm args below meth c Q nL n0 t0 as0 pc ls st h := by
  have hv : vldB ls i (0, x) = true := rfl
  exact fun as H locs cells slots lsA hE hR hS hL hO hc hs => lv_iload_n hx hb hd hk (hL.at hl hv).2 (hN as H locs cells slots lsA hE hR hS hL (oks_cons (hL.at hl hv).1 hO) hc hs)
theorem g_iload (hx : p.tables.exec = Jvm.exec) (hb : c.code = cc) {i : Nat} {x : Int} (hd : decode cc pc = .ok (.iload i, 2)) (hl : ls[i]? = some (0, x)) (hN : Gd G p l e R s mm args below meth c Q nL n0 t0 as0 (pc + 2) ls ((0, x) :: st) h) : Gd G p l e R s mm args below meth c Q nL n0 t0 as0 pc ls st h := by
  have hv : vldB ls i (0, x) = true := rfl
  exact fun as H locs cells slots lsA hE hR hS hL hO hc hs => lv_iload hx hb hd (hL.at hl hv).2 (hN as H locs cells slots lsA hE hR hS hL (oks_cons (hL.at hl hv).1 hO) hc hs)
theorem g_lload_n (hx : p.tables.exec = Jvm.exec) (hb : c.code = cc) {k : Fin 4} {i : Nat} {x : Int} {u : AV} (hd : decode cc pc = .ok (.lload_n k, 1)) (hk : k.val = i) (hl : ls[i]? = some (2, x)) (hu : ls[i + 1]? = some u) (h8 : u.1 = 8) (hN : Gd G p l e R s mm args below meth c Q nL n0 t0 as0 (pc + 1) ls ((2, x) :: st) h) : Gd G p l e R s mm args below meth c Q nL n0 t0 as0 pc ls st h := by
  have hv : vldB ls i (2, x) = true := by unfold vldB; rw [if_pos rfl, hu]; simpa using h8
  exact fun as H locs cells slots lsA hE hR hS hL hO hc hs => lv_lload_n hx hb hd hk (hL.at hl hv).2 (hN as H locs cells slots lsA hE hR hS hL (oks_cons (hL.at hl hv).1 hO) hc hs)
theorem g_lload (hx : p.tables.exec = Jvm.exec) (hb : c.code = cc) {i : Nat} {x : Int} {u : AV} (hd : decode cc pc = .ok (.lload i, 2)) (hl : ls[i]? = some (2, x)) (hu : ls[i + 1]? = some u) (h8 : u.1 = 8) (hN : Gd G p l e R s mm args below meth c Q nL n0 t0 as0 (pc + 2) ls ((2, x) :: st) h) : Gd G p l e R s mm args below meth c Q nL n0 t0 as0 pc ls st h := by
  have hv : vldB ls i (2, x) = true := by unfold vldB; rw [if_pos rfl, hu]; simpa using h8
  exact fun as H locs cells slots lsA hE hR hS hL hO hc hs => lv_lload hx hb hd (hL.at hl hv).2 (hN as H locs cells slots lsA hE hR hS hL (oks_cons (hL.at hl hv).1 hO) hc hs)
theorem g_aload_n (hx : p.tables.exec = Jvm.exec) (hb : c.code = cc) {k : Fin 4} {i : Nat} {v : AV} (hd : decode cc pc = .ok (.aload_n k, 1)) (hk : k.val = i) (hl : ls[i]? = some v) (ht : v.1 = 3 ∨ 100 ≤ v.1) (hN : Gd G p l e R s mm args below meth c Q nL n0 t0 as0 (pc + 1) ls (v :: st) h) : Gd G p l e R s mm args below meth c Q nL n0 t0 as0 pc ls st h := by
  have hv : vldB ls i v = true := by unfold vldB; rw [if_neg (by omega)]; rcases ht with q | q <;> simp [q]
  intro as H locs cells slots lsA hE hR hS hL hO hc hs
  obtain ⟨a, ha⟩ := cv_ref (G := G) (as := as) ht
  have h2 := (hL.at hl hv).2
  have hk2 := hN as H locs cells slots lsA hE hR hS hL (oks_cons (hL.at hl hv).1 hO) hc hs
  rw [List.map_cons, ha] at hk2
  rw [ha] at h2
  exact lv_aload_n hx hb hd hk h2 hk2
theorem g_aload (hx : p.tables.exec = Jvm.exec) (hb : c.code = cc) {i : Nat} {v : AV} (hd : decode cc pc = .ok (.aload i, 2)) (hl : ls[i]? = some v) (ht : v.1 = 3 ∨ 100 ≤ v.1) (hN : Gd G p l e R s mm args below meth c Q nL n0 t0 as0 (pc + 2) ls (v :: st) h) : Gd G p l e R s mm args below meth c Q nL n0 t0 as0 pc ls st h := by
  have hv : vldB ls i v = true := by unfold vldB; rw [if_neg (by omega)]; rcases ht with q | q <;> simp [q]
  intro as H locs cells slots lsA hE hR hS hL hO hc hs
  obtain ⟨a, ha⟩ := cv_ref (G := G) (as := as) ht
  have h2 := (hL.at hl hv).2
  have hk2 := hN as H locs cells slots lsA hE hR hS hL (oks_cons (hL.at hl hv).1 hO) hc hs
  rw [List.map_cons, ha] at hk2
  rw [ha] at h2
  exact lv_aload hx hb hd h2 hk2
theorem g_istore_n (hx : p.tables.exec = Jvm.exec) (hb : c.code = cc) {k : Fin 4} {i : Nat} {x : Int} (hd : decode cc pc = .ok (.istore_n k, 1)) (hk : k.val = i) (hi : i < ls.length) (hN : Gd G p l e R s mm args below meth c Q nL n0 t0 as0 (pc + 1) (ls.set i (0, x)) st h) : Gd G p l e R s mm args below meth c Q nL n0 t0 as0 pc ls ((0, x) :: st) h := by
  intro as H locs cells slots lsA hE hR hS hL hO hc hs
  have hi' : i < nL := by rw [← hL.1]; exact hi
  exact lv_istore_n hx hb hd hk hL.2.2 hi' rfl (fun lsB hB => hN as H locs cells slots lsB hE hR hS (hL.store1 hi' (oks_hd hO) (show (0 : Nat) ≠ 2 by decide) hB) (oks_tl hO) hc hs)
theorem g_istore (hx : p.tables.exec = Jvm.exec) (hb : c.code = cc) {i : Nat} {x : Int} (hd : decode cc pc = .ok (.istore i, 2)) (hi : i < ls.length) (hN : Gd G p l e R s mm args below meth c Q nL n0 t0 as0 (pc + 2) (ls.set i (0, x)) st h) : Gd G p l e R s mm args below meth c Q nL n0 t0 as0 pc ls ((0, x) :: st) h := by
  intro as H locs cells slots lsA hE hR hS hL hO hc hs
  have hi' : i < nL := by rw [← hL.1]; exact hi
  exact lv_istore hx hb hd hL.2.2 hi' rfl (fun lsB hB => hN as H locs cells slots lsB hE hR hS (hL.store1 hi' (oks_hd hO) (show (0 : Nat) ≠ 2 by decide) hB) (oks_tl hO) hc hs)
theorem g_lstore_n (hx : p.tables.exec = Jvm.exec) (hb : c.code = cc) {k : Fin 4} {i : Nat} {x : Int} (hd : decode cc pc = .ok (.lstore_n k, 1)) (hk : k.val = i) (hi : i + 1 < ls.length) (hN : Gd G p l e R s mm args below meth c Q nL n0 t0 as0 (pc + 1) ((ls.set i (2, x)).set (i + 1) (8, 0)) st h) : Gd G p l e R s mm args below meth c Q nL n0 t0 as0 pc ls ((2, x) :: st) h := by
  intro as H locs cells slots lsA hE hR hS hL hO hc hs
  have hi' : i + 1 < nL := by rw [← hL.1]; exact hi
  exact lv_lstore_n hx hb hd hk hL.2.2 hi' rfl (fun lsB hB => hN as H locs cells slots lsB hE hR hS (hL.store2 hi' (oks_hd hO) rfl hB) (oks_tl hO) hc hs)
theorem g_lstore (hx : p.tables.exec = Jvm.exec) (hb : c.code = cc) {i : Nat} {x : Int} (hd : decode cc pc = .ok (.lstore i, 2)) (hi : i + 1 < ls.length) (hN : Gd G p l e R s mm args below meth c Q nL n0 t0 as0 (pc + 2) ((ls.set i (2, x)).set (i + 1) (8, 0)) st h) : Gd G p l e R s mm args below meth c Q nL n0 t0 as0 pc ls ((2, x) :: st) h := by
  intro as H locs cells slots lsA hE hR hS hL hO hc hs
  have hi' : i + 1 < nL := by rw [← hL.1]; exact hi
  exact lv_lstore hx hb hd hL.2.2 hi' rfl (fun lsB hB => hN as H locs cells slots lsB hE hR hS (hL.store2 hi' (oks_hd hO) rfl hB) (oks_tl hO) hc hs)
theorem g_astore_n (hx : p.tables.exec = Jvm.exec) (hb : c.code = cc) {k : Fin 4} {i : Nat} {v : AV} (hd : decode cc pc = .ok (.astore_n k, 1)) (hk : k.val = i) (hi : i < ls.length) (ht : v.1 = 3 ∨ 100 ≤ v.1) (hN : Gd G p l e R s mm args below meth c Q nL n0 t0 as0 (pc + 1) (ls.set i v) st h) : Gd G p l e R s mm args below meth c Q nL n0 t0 as0 pc ls (v :: st) h := by
  intro as H locs cells slots lsA hE hR hS hL hO hc hs
  have hi' : i < nL := by rw [← hL.1]; exact hi
  obtain ⟨a, ha⟩ := cv_ref (G := G) (as := as) ht
  rw [List.map_cons, ha]
  refine lv_astore_n hx hb hd hk hL.2.2 hi' rfl (fun lsB hB => hN as H locs cells slots lsB hE hR hS (hL.store1 hi' (oks_hd hO) (by omega) ?_) (oks_tl hO) hc hs)
  rw [ha]; exact hB
theorem g_astore (hx : p.tables.exec = Jvm.exec) (hb : c.code = cc) {i : Nat} {v : AV} (hd : decode cc pc = .ok (.astore i, 2)) (hi : i < ls.length) (ht : v.1 = 3 ∨ 100 ≤ v.1) (hN : Gd G p l e R s mm args below meth c Q nL n0 t0 as0 (pc + 2) (ls.set i v) st h) : Gd G p l e R s mm args below meth c Q nL n0 t0 as0 pc ls (v :: st) h := by
  intro as H locs cells slots lsA hE hR hS hL hO hc hs
  have hi' : i < nL := by rw [← hL.1]; exact hi
  obtain ⟨a, ha⟩ := cv_ref (G := G) (as := as) ht
  rw [List.map_cons, ha]
  refine lv_astore hx hb hd hL.2.2 hi' rfl (fun lsB hB => hN as H locs cells slots lsB hE hR hS (hL.store1 hi' (oks_hd hO) (by omega) ?_) (oks_tl hO) hc hs)
  rw [ha]; exact hB
theorem g_iinc (hx : p.tables.exec = Jvm.exec) (hb : c.code = cc) {i : Nat} {n x : Int} (hd : decode cc pc = .ok (.iinc i n, 3)) (hl : ls[i]? = some (0, x)) (hi : i < ls.length) (hN : Gd G p l e R s mm args below meth c Q nL n0 t0 as0 (pc + 3) (ls.set i (0, a_add x n)) st h) : Gd G p l e R s mm args below meth c Q nL n0 t0 as0 pc ls st h := by
  intro as H locs cells slots lsA hE hR hS hL hO hc hs
  have hi' : i < nL := by rw [← hL.1]; exact hi
  obtain ⟨k, hk⟩ := List.getElem?_of_mem (mem_lvl.mpr ⟨(0, x), hl, rfl, rfl⟩ : (i, cvv G as (0, x)) ∈ lvl G as ls)
  refine lv_iinc (v := Int32.ofInt (a_add x n)) hx hb hd hL.2.2 hk (oAdd x n).1.symm hi' rfl (fun lsB hB => hN as H locs cells slots lsB hE hR hS (hL.store1 hi' (ok0I (oAdd x n).2) (show (0 : Nat) ≠ 2 by decide) hB) hO hc hs)
theorem g_iadd (hx : p.tables.exec = Jvm.exec) (hb : c.code = cc) {x y : Int} (hd : decode cc pc = .ok (.iadd, 1)) (hN : Gd G p l e R s mm args below meth c Q nL n0 t0 as0 (pc + 1) ls ((0, a_add x y) :: st) h) : Gd G p l e R s mm args below meth c Q nL n0 t0 as0 pc ls ((0, y) :: (0, x) :: st) h :=
  g_st hN (fun hO => oks_cons (ok0I (oAdd x y).2) (oks_tl (oks_tl hO))) (fun as H locs cells slots lsA hO hL k => lv_iadd hx hb hd (by rw [List.map_cons, cv0, (oAdd x y).1] at k; exact k))
theorem g_isub (hx : p.tables.exec = Jvm.exec) (hb : c.code = cc) {x y : Int} (hd : decode cc pc = .ok (.isub, 1)) (hN : Gd G p l e R s mm args below meth c Q nL n0 t0 as0 (pc + 1) ls ((0, a_sub x y) :: st) h) : Gd G p l e R s mm args below meth c Q nL n0 t0 as0 pc ls ((0, y) :: (0, x) :: st) h :=
  g_st hN (fun hO => oks_cons (ok0I (oSub x y).2) (oks_tl (oks_tl hO))) (fun as H locs cells slots lsA hO hL k => lv_isub hx hb hd (by rw [List.map_cons, cv0, (oSub x y).1] at k; exact k))
theorem g_imul (hx : p.tables.exec = Jvm.exec) (hb : c.code = cc) {x y : Int} (hd : decode cc pc = .ok (.imul, 1)) (hN : Gd G p l e R s mm args below meth c Q nL n0 t0 as0 (pc + 1) ls ((0, a_mul x y) :: st) h) : Gd G p l e R s mm args below meth c Q nL n0 t0 as0 pc ls ((0, y) :: (0, x) :: st) h :=
  g_st hN (fun hO => oks_cons (ok0I (oMul x y).2) (oks_tl (oks_tl hO))) (fun as H locs cells slots lsA hO hL k => lv_imul hx hb hd (by rw [List.map_cons, cv0, (oMul x y).1] at k; exact k))
theorem g_iand (hx : p.tables.exec = Jvm.exec) (hb : c.code = cc) {x y : Int} (hd : decode cc pc = .ok (.iand, 1)) (hN : Gd G p l e R s mm args below meth c Q nL n0 t0 as0 (pc + 1) ls ((0, a_and x y) :: st) h) : Gd G p l e R s mm args below meth c Q nL n0 t0 as0 pc ls ((0, y) :: (0, x) :: st) h :=
  g_st hN (fun hO => oks_cons (ok0I (oAnd x y).2) (oks_tl (oks_tl hO))) (fun as H locs cells slots lsA hO hL k => lv_iand hx hb hd (by rw [List.map_cons, cv0, (oAnd x y).1] at k; exact k))
theorem g_ior (hx : p.tables.exec = Jvm.exec) (hb : c.code = cc) {x y : Int} (hd : decode cc pc = .ok (.ior, 1)) (hN : Gd G p l e R s mm args below meth c Q nL n0 t0 as0 (pc + 1) ls ((0, a_or x y) :: st) h) : Gd G p l e R s mm args below meth c Q nL n0 t0 as0 pc ls ((0, y) :: (0, x) :: st) h :=
  g_st hN (fun hO => oks_cons (ok0I (oOr x y).2) (oks_tl (oks_tl hO))) (fun as H locs cells slots lsA hO hL k => lv_ior hx hb hd (by rw [List.map_cons, cv0, (oOr x y).1] at k; exact k))
theorem g_ishl (hx : p.tables.exec = Jvm.exec) (hb : c.code = cc) {x y : Int} (hd : decode cc pc = .ok (.ishl, 1)) (hN : Gd G p l e R s mm args below meth c Q nL n0 t0 as0 (pc + 1) ls ((0, a_shl x y) :: st) h) : Gd G p l e R s mm args below meth c Q nL n0 t0 as0 pc ls ((0, y) :: (0, x) :: st) h :=
  g_st hN (fun hO => oks_cons (ok0I (oShl x y).2) (oks_tl (oks_tl hO))) (fun as H locs cells slots lsA hO hL k => lv_ishl hx hb hd (by rw [List.map_cons, cv0, (oShl x y).1] at k; exact k))
theorem g_ishr (hx : p.tables.exec = Jvm.exec) (hb : c.code = cc) {x y : Int} (hd : decode cc pc = .ok (.ishr, 1)) (hN : Gd G p l e R s mm args below meth c Q nL n0 t0 as0 (pc + 1) ls ((0, a_shr x y) :: st) h) : Gd G p l e R s mm args below meth c Q nL n0 t0 as0 pc ls ((0, y) :: (0, x) :: st) h :=
  g_st hN (fun hO => oks_cons (ok0I (oShr x y).2) (oks_tl (oks_tl hO))) (fun as H locs cells slots lsA hO hL k => lv_ishr hx hb hd (by rw [List.map_cons, cv0, (oShr x y).1] at k; exact k))
theorem g_ladd (hx : p.tables.exec = Jvm.exec) (hb : c.code = cc) {x y : Int} (hd : decode cc pc = .ok (.ladd, 1)) (hN : Gd G p l e R s mm args below meth c Q nL n0 t0 as0 (pc + 1) ls ((2, a_ladd x y) :: st) h) : Gd G p l e R s mm args below meth c Q nL n0 t0 as0 pc ls ((2, y) :: (2, x) :: st) h :=
  g_st hN (fun hO => oks_cons (ok2L (oLadd x y).2) (oks_tl (oks_tl hO))) (fun as H locs cells slots lsA hO hL k => lv_ladd hx hb hd (by rw [List.map_cons, cv2, (oLadd x y).1] at k; exact k))
theorem g_lmul (hx : p.tables.exec = Jvm.exec) (hb : c.code = cc) {x y : Int} (hd : decode cc pc = .ok (.lmul, 1)) (hN : Gd G p l e R s mm args below meth c Q nL n0 t0 as0 (pc + 1) ls ((2, a_lmul x y) :: st) h) : Gd G p l e R s mm args below meth c Q nL n0 t0 as0 pc ls ((2, y) :: (2, x) :: st) h :=
  g_st hN (fun hO => oks_cons (ok2L (oLmul x y).2) (oks_tl (oks_tl hO))) (fun as H locs cells slots lsA hO hL k => lv_lmul hx hb hd (by rw [List.map_cons, cv2, (oLmul x y).1] at k; exact k))
theorem g_lor (hx : p.tables.exec = Jvm.exec) (hb : c.code = cc) {x y : Int} (hd : decode cc pc = .ok (.lor, 1)) (hN : Gd G p l e R s mm args below meth c Q nL n0 t0 as0 (pc + 1) ls ((2, a_lor x y) :: st) h) : Gd G p l e R s mm args below meth c Q nL n0 t0 as0 pc ls ((2, y) :: (2, x) :: st) h :=
  g_st hN (fun hO => oks_cons (ok2L (oLor x y).2) (oks_tl (oks_tl hO))) (fun as H locs cells slots lsA hO hL k => lv_lor hx hb hd (by rw [List.map_cons, cv2, (oLor x y).1] at k; exact k))
theorem g_iushr (hx : p.tables.exec = Jvm.exec) (hb : c.code = cc) {x y : Int} (hd : decode cc pc = .ok (.iushr, 1)) (hN : Gd G p l e R s mm args below meth c Q nL n0 t0 as0 (pc + 1) ls ((0, a_ushr x y) :: st) h) : Gd G p l e R s mm args below meth c Q nL n0 t0 as0 pc ls ((0, y) :: (0, x) :: st) h :=
  g_st hN (fun hO => oks_cons (ok0I (oUshr x y).2) (oks_tl (oks_tl hO))) (fun as H locs cells slots lsA hO hL k => lv_iushr hx hb hd (oUshr x y).1.symm k)
theorem g_idiv (hx : p.tables.exec = Jvm.exec) (hb : c.code = cc) {x y : Int} (hd : decode cc pc = .ok (.idiv, 1)) (hy : ¬ y = 0) (hN : Gd G p l e R s mm args below meth c Q nL n0 t0 as0 (pc + 1) ls ((0, a_div x y) :: st) h) : Gd G p l e R s mm args below meth c Q nL n0 t0 as0 pc ls ((0, y) :: (0, x) :: st) h :=
  g_st hN (fun hO => oks_cons (ok0I (oDiv x y).2) (oks_tl (oks_tl hO))) (fun as H locs cells slots lsA hO hL k => lv_idiv hx hb hd (fun q => hy ((eqI (y := 0) (ok0 (oks_hd hO)) inI0).mp q)) (by rw [List.map_cons, cv0, (oDiv x y).1] at k; exact k))
theorem g_irem (hx : p.tables.exec = Jvm.exec) (hb : c.code = cc) {x y : Int} (hd : decode cc pc = .ok (.irem, 1)) (hy : ¬ y = 0) (hN : Gd G p l e R s mm args below meth c Q nL n0 t0 as0 (pc + 1) ls ((0, a_rem x y) :: st) h) : Gd G p l e R s mm args below meth c Q nL n0 t0 as0 pc ls ((0, y) :: (0, x) :: st) h :=
  g_st hN (fun hO => oks_cons (ok0I (oRem x y).2) (oks_tl (oks_tl hO))) (fun as H locs cells slots lsA hO hL k => lv_irem hx hb hd (fun q => hy ((eqI (y := 0) (ok0 (oks_hd hO)) inI0).mp q)) (by rw [List.map_cons, cv0, (oRem x y).1] at k; exact k))
theorem inL0 : inL 0 := ⟨by omega, by omega⟩
theorem g_ldiv (hx : p.tables.exec = Jvm.exec) (hb : c.code = cc) {x y : Int} (hd : decode cc pc = .ok (.ldiv, 1)) (hy : ¬ y = 0) (hN : Gd G p l e R s mm args below meth c Q nL n0 t0 as0 (pc + 1) ls ((2, a_ldiv x y) :: st) h) : Gd G p l e R s mm args below meth c Q nL n0 t0 as0 pc ls ((2, y) :: (2, x) :: st) h :=
  g_st hN (fun hO => oks_cons (ok2L (oLdiv x y).2) (oks_tl (oks_tl hO))) (fun as H locs cells slots lsA hO hL k => lv_ldiv hx hb hd (fun q => hy ((eqL (y := 0) (ok2 (oks_hd hO)) inL0).mp q)) (by rw [List.map_cons, cv2, (oLdiv x y).1] at k; exact k))
theorem g_lrem (hx : p.tables.exec = Jvm.exec) (hb : c.code = cc) {x y : Int} (hd : decode cc pc = .ok (.lrem, 1)) (hy : ¬ y = 0) (hN : Gd G p l e R s mm args below meth c Q nL n0 t0 as0 (pc + 1) ls ((2, a_lrem x y) :: st) h) : Gd G p l e R s mm args below meth c Q nL n0 t0 as0 pc ls ((2, y) :: (2, x) :: st) h :=
  g_st hN (fun hO => oks_cons (ok2L (oLrem x y).2) (oks_tl (oks_tl hO))) (fun as H locs cells slots lsA hO hL k => lv_lrem hx hb hd (fun q => hy ((eqL (y := 0) (ok2 (oks_hd hO)) inL0).mp q)) (by rw [List.map_cons, cv2, (oLrem x y).1] at k; exact k))
theorem g_ineg (hx : p.tables.exec = Jvm.exec) (hb : c.code = cc) {x : Int} (hd : decode cc pc = .ok (.ineg, 1)) (hN : Gd G p l e R s mm args below meth c Q nL n0 t0 as0 (pc + 1) ls ((0, a_neg x) :: st) h) : Gd G p l e R s mm args below meth c Q nL n0 t0 as0 pc ls ((0, x) :: st) h :=
  g_st hN (fun hO => oks_cons (ok0I (oNeg x).2) (oks_tl hO)) (fun as H locs cells slots lsA hO hL k => lv_ineg hx hb hd (by rw [List.map_cons, cv0, (oNeg x).1] at k; exact k))
theorem g_i2c (hx : p.tables.exec = Jvm.exec) (hb : c.code = cc) {x : Int} (hd : decode cc pc = .ok (.i2c, 1)) (hN : Gd G p l e R s mm args below meth c Q nL n0 t0 as0 (pc + 1) ls ((0, a_i2c x) :: st) h) : Gd G p l e R s mm args below meth c Q nL n0 t0 as0 pc ls ((0, x) :: st) h :=
  g_st hN (fun hO => oks_cons (ok0I (oI2c x).2) (oks_tl hO)) (fun as H locs cells slots lsA hO hL k => lv_i2c hx hb hd (oI2c x).1.symm k)
theorem g_i2l (hx : p.tables.exec = Jvm.exec) (hb : c.code = cc) {x : Int} (hd : decode cc pc = .ok (.i2l, 1)) (hN : Gd G p l e R s mm args below meth c Q nL n0 t0 as0 (pc + 1) ls ((2, x) :: st) h) : Gd G p l e R s mm args below meth c Q nL n0 t0 as0 pc ls ((0, x) :: st) h :=
  g_st hN (fun hO => oks_cons (ok2L (oI2l (ok0 (oks_hd hO))).2) (oks_tl hO)) (fun as H locs cells slots lsA hO hL k => lv_i2l hx hb hd (oI2l (ok0 (oks_hd hO))).1 k)
theorem g_l2i (hx : p.tables.exec = Jvm.exec) (hb : c.code = cc) {x : Int} (hd : decode cc pc = .ok (.l2i, 1)) (hN : Gd G p l e R s mm args below meth c Q nL n0 t0 as0 (pc + 1) ls ((0, w32 x) :: st) h) : Gd G p l e R s mm args below meth c Q nL n0 t0 as0 pc ls ((2, x) :: st) h :=
  g_st hN (fun hO => oks_cons (ok0I (oL2i x).2) (oks_tl hO)) (fun as H locs cells slots lsA hO hL k => lv_l2i hx hb hd (oL2i x).1 k)
theorem g_lshl (hx : p.tables.exec = Jvm.exec) (hb : c.code = cc) {x y : Int} (hd : decode cc pc = .ok (.lshl, 1)) (hN : Gd G p l e R s mm args below meth c Q nL n0 t0 as0 (pc + 1) ls ((2, a_lshl x y) :: st) h) : Gd G p l e R s mm args below meth c Q nL n0 t0 as0 pc ls ((0, y) :: (2, x) :: st) h :=
  g_st hN (fun hO => oks_cons (ok2L (oLshl x y).2) (oks_tl (oks_tl hO))) (fun as H locs cells slots lsA hO hL k => lv_lshl hx hb hd (oLshl x y).1.symm k)
theorem g_lcmp (hx : p.tables.exec = Jvm.exec) (hb : c.code = cc) {x y : Int} (hd : decode cc pc = .ok (.lcmp, 1)) (hN : Gd G p l e R s mm args below meth c Q nL n0 t0 as0 (pc + 1) ls ((0, a_lcmp x y) :: st) h) : Gd G p l e R s mm args below meth c Q nL n0 t0 as0 pc ls ((2, y) :: (2, x) :: st) h :=
  g_st hN (fun hO => oks_cons (ok0I (oLcmp (ok2 (oks_hd (oks_tl hO))) (ok2 (oks_hd hO))).2) (oks_tl (oks_tl hO))) (fun as H locs cells slots lsA hO hL k => W.lcmp hx hb hd (by rw [List.map_cons, cv0, (oLcmp (ok2 (oks_hd (oks_tl hO))) (ok2 (oks_hd hO))).1] at k; exact k))
theorem cv_c1 {as : List Nat} {v : AV} (h2 : Nat.beq v.1 2 = false) : (cvv G as v).category = 1 := by
  rw [cvv_cat, if_neg]
  intro q
  rw [q] at h2
  cases h2
theorem g_dup (hx : p.tables.exec = Jvm.exec) (hb : c.code = cc) {v : AV} (hd : decode cc pc = .ok (.dup, 1)) (h2 : Nat.beq v.1 2 = false) (hN : Gd G p l e R s mm args below meth c Q nL n0 t0 as0 (pc + 1) ls (v :: v :: st) h) : Gd G p l e R s mm args below meth c Q nL n0 t0 as0 pc ls (v :: st) h :=
  g_st hN (fun hO => oks_cons (oks_hd hO) hO) (fun as H locs cells slots lsA hO hL k => lv_dup hx hb hd (cv_c1 h2) k)
theorem g_dup2 (hx : p.tables.exec = Jvm.exec) (hb : c.code = cc) {v u : AV} (hd : decode cc pc = .ok (.dup2, 1)) (h2 : Nat.beq v.1 2 = false) (h3 : Nat.beq u.1 2 = false) (hN : Gd G p l e R s mm args below meth c Q nL n0 t0 as0 (pc + 1) ls (v :: u :: v :: u :: st) h) : Gd G p l e R s mm args below meth c Q nL n0 t0 as0 pc ls (v :: u :: st) h :=
  g_st hN (fun hO => oks_cons (oks_hd hO) (oks_cons (oks_hd (oks_tl hO)) hO)) (fun as H locs cells slots lsA hO hL k => lv_dup2_11 hx hb hd (cv_c1 h2) (cv_c1 h3) k)
theorem g_pop (hx : p.tables.exec = Jvm.exec) (hb : c.code = cc) {v : AV} (hd : decode cc pc = .ok (.pop, 1)) (h2 : Nat.beq v.1 2 = false) (hN : Gd G p l e R s mm args below meth c Q nL n0 t0 as0 (pc + 1) ls st h) : Gd G p l e R s mm args below meth c Q nL n0 t0 as0 pc ls (v :: st) h :=
  g_st hN (fun hO => oks_tl hO) (fun as H locs cells slots lsA hO hL k => lv_pop hx hb hd (cv_c1 h2) k)
theorem g_goto (hx : p.tables.exec = Jvm.exec) (hb : c.code = cc) {o : Int} {t : Nat} (hd : decode cc pc = .ok (.goto o, 3)) (ht : (pc : Int) + o = (t : Int)) (hN : Gd G p l e R s mm args below meth c Q nL n0 t0 as0 t ls st h) : Gd G p l e R s mm args below meth c Q nL n0 t0 as0 pc ls st h :=
  g_st hN (fun hO => hO) (fun as H locs cells slots lsA hO hL k => lv_goto hx hb hd ht k)
theorem g_if (hx : p.tables.exec = Jvm.exec) (hb : c.code = cc) {k : ClassFile.Cond} {o : Int} {t : Nat} {x : Int} (hd : decode cc pc = .ok (.ifCond k o, 3)) (ht : (pc : Int) + o = (t : Int)) {A B : AR} {r : Int × AH} (e0 : am_br k x 0 A B = some r) (hA : A = some r → Gd G p l e R s mm args below meth c Q nL n0 t0 as0 t ls st h) (hB : B = some r → Gd G p l e R s mm args below meth c Q nL n0 t0 as0 (pc + 3) ls st h) : Gd G p l e R s mm args below meth c Q nL n0 t0 as0 pc ls ((0, x) :: st) h := by
  intro as H locs cells slots lsA hE hR hS hL hO hc hs
  have hxI := ok0 (oks_hd hO)
  have kA : A = some r → W p l e R s mm args below meth c H locs cells slots Q (F0 mm t lsA (st.map (cvv G as))) := fun q => hA q as H locs cells slots lsA hE hR hS hL (oks_tl hO) hc hs
  have kB : B = some r → W p l e R s mm args below meth c H locs cells slots Q (F0 mm (pc + 3) lsA (st.map (cvv G as))) := fun q => hB q as H locs cells slots lsA hE hR hS hL (oks_tl hO) hc hs
  have q1 : Int32.ofInt x = 0 ↔ x = 0 := eqI (y := 0) hxI inI0
  have q2 : Int32.ofInt x < 0 ↔ x < 0 := ltI (y := 0) hxI inI0
  have q3 : 0 < Int32.ofInt x ↔ 0 < x := ltI (x := 0) inI0 hxI
  cases k with
  | eq => exact lv_if_eq hx hb hd ht (fun q => kA (by rw [am_br, if_pos (q1.mp q)] at e0; exact e0)) (fun q => kB (by rw [am_br, if_neg (fun z => q (q1.mpr z))] at e0; exact e0))
  | ne => exact lv_if_ne hx hb hd ht (fun q => kA (by rw [am_br, if_neg (fun z => q (q1.mpr z))] at e0; exact e0)) (fun q => kB (by rw [am_br, if_pos (q1.mp q)] at e0; exact e0))
  | lt => exact lv_if_lt hx hb hd ht (fun q => kA (by rw [am_br, if_pos (q2.mp q)] at e0; exact e0)) (fun q => kB (by rw [am_br, if_neg (fun z => q (q2.mpr z))] at e0; exact e0))
  | ge => exact lv_if_ge hx hb hd ht (fun q => kA (by rw [am_br, if_neg (fun z => Int32.not_lt.mpr q (q2.mpr z))] at e0; exact e0)) (fun q => kB (by rw [am_br, if_pos (q2.mp (Int32.not_le.mp q))] at e0; exact e0))
  | gt => exact lv_if_gt hx hb hd ht (fun q => kA (by rw [am_br, if_pos (q3.mp q)] at e0; exact e0)) (fun q => kB (by rw [am_br, if_neg (fun z => q (q3.mpr z))] at e0; exact e0))
  | le => exact lv_if_le hx hb hd ht (fun q => kA (by rw [am_br, if_neg (fun z => Int32.not_lt.mpr q (q3.mpr z))] at e0; exact e0)) (fun q => kB (by rw [am_br, if_pos (q3.mp (Int32.not_le.mp q))] at e0; exact e0))
theorem g_icmp (hx : p.tables.exec = Jvm.exec) (hb : c.code = cc) {k : ClassFile.Cond} {o : Int} {t : Nat} {x y : Int} (hd : decode cc pc = .ok (.if_icmp k o, 3)) (ht : (pc : Int) + o = (t : Int)) {A B : AR} {r : Int × AH} (e0 : am_br k x y A B = some r) (hA : A = some r → Gd G p l e R s mm args below meth c Q nL n0 t0 as0 t ls st h) (hB : B = some r → Gd G p l e R s mm args below meth c Q nL n0 t0 as0 (pc + 3) ls st h) : Gd G p l e R s mm args below meth c Q nL n0 t0 as0 pc ls ((0, y) :: (0, x) :: st) h := by
  intro as H locs cells slots lsA hE hR hS hL hO hc hs
  have hyI := ok0 (oks_hd hO)
  have hxI := ok0 (oks_hd (oks_tl hO))
  have kA : A = some r → W p l e R s mm args below meth c H locs cells slots Q (F0 mm t lsA (st.map (cvv G as))) := fun q => hA q as H locs cells slots lsA hE hR hS hL (oks_tl (oks_tl hO)) hc hs
  have kB : B = some r → W p l e R s mm args below meth c H locs cells slots Q (F0 mm (pc + 3) lsA (st.map (cvv G as))) := fun q => hB q as H locs cells slots lsA hE hR hS hL (oks_tl (oks_tl hO)) hc hs
  have q1 : Int32.ofInt x = Int32.ofInt y ↔ x = y := eqI hxI hyI
  have q2 : Int32.ofInt x < Int32.ofInt y ↔ x < y := ltI hxI hyI
  have q3 : Int32.ofInt y < Int32.ofInt x ↔ y < x := ltI hyI hxI
  cases k with
  | eq => exact lv_icmp_eq hx hb hd ht (fun q => kA (by rw [am_br, if_pos (q1.mp q)] at e0; exact e0)) (fun q => kB (by rw [am_br, if_neg (fun z => q (q1.mpr z))] at e0; exact e0))
  | ne => exact lv_icmp_ne hx hb hd ht (fun q => kA (by rw [am_br, if_neg (fun z => q (q1.mpr z))] at e0; exact e0)) (fun q => kB (by rw [am_br, if_pos (q1.mp q)] at e0; exact e0))
  | lt => exact lv_icmp_lt hx hb hd ht (fun q => kA (by rw [am_br, if_pos (q2.mp q)] at e0; exact e0)) (fun q => kB (by rw [am_br, if_neg (fun z => q (q2.mpr z))] at e0; exact e0))
  | ge => exact lv_icmp_ge hx hb hd ht (fun q => kA (by rw [am_br, if_neg (fun z => Int32.not_lt.mpr q (q2.mpr z))] at e0; exact e0)) (fun q => kB (by rw [am_br, if_pos (q2.mp (Int32.not_le.mp q))] at e0; exact e0))
  | gt => exact lv_icmp_gt hx hb hd ht (fun q => kA (by rw [am_br, if_pos (q3.mp q)] at e0; exact e0)) (fun q => kB (by rw [am_br, if_neg (fun z => q (q3.mpr z))] at e0; exact e0))
  | le => exact lv_icmp_le hx hb hd ht (fun q => kA (by rw [am_br, if_neg (fun z => Int32.not_lt.mpr q (q3.mpr z))] at e0; exact e0)) (fun q => kB (by rw [am_br, if_pos (q3.mp (Int32.not_le.mp q))] at e0; exact e0))
end PURE
