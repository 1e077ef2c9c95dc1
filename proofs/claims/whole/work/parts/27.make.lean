/-! A step of the abstract machine is a step of the machine: objects and arrays are made, System.arraycopy, Math, Object's constructor. -/
section MAKE
variable {p : Program} {l : Launch} {e : Env} {R : Room} {s : State} {mm : MethodId} {args : Array Value} {below : List Frame} {meth : Method} {c : Code} {Q : State → Prop}
variable {G : AG} {nL n0 t0 pc : Nat} {as0 : List Nat} {ls st : List AV} {h : AH} {cc : ByteArray}
theorem ini_at {t j : Nat} (ht : t ≤ 7) (hj : j < cF t) : (am_ini t)[j]? = some (cond (Nat.ble 100 (sty t j)) (-1) 0) := by
  have hl : j < (am_ft t).length := by rw [(ftA ht).1]; exact hj
  unfold am_ini
  rw [List.getElem?_map, List.getElem?_eq_getElem hl]
  have : (am_ft t)[j] = sty t j := by unfold sty; rw [if_pos ht, gdE, List.getElem?_eq_getElem hl]; rfl
  rw [this]; rfl
theorem ini_len {t : Nat} (ht : t ≤ 7) : (am_ini t).length = cF t := by
  unfold am_ini; rw [List.length_map]; exact (ftA ht).1
theorem dflt {t : Nat} (ht : t ≤ 7) : ∀ j, j < cF t → defaultValue (cTy t j) = vp_V (encF [] t (am_ini t)) j := by
  intro j hj
  unfold vp_V
  rw [gdE, encF_get (ini_at ht hj)]
  have hf := (ftA ht).2 j hj
  have hs : (am_ft t).getD j 1 = sty t j := by unfold sty; rw [if_pos ht]
  rw [hs] at hf
  show _ = hvx [] (sty t j) (cond (Nat.ble 100 (sty t j)) (-1) 0)
  cases hty : cTy t j with
  | int => rw [hty] at hf; have : sty t j = 0 := Nat.eq_of_beq_eq_true hf; rw [this]; rfl
  | boolean => rw [hty] at hf; have : sty t j = 0 := Nat.eq_of_beq_eq_true hf; rw [this]; rfl
  | array q => rw [hty] at hf; have h1 : Nat.ble 100 (sty t j) = true := hf; unfold hvx; rw [if_pos (Nat.le_of_ble_eq_true h1), h1]; rfl
  | object q => rw [hty] at hf; have h1 : Nat.ble 100 (sty t j) = true := hf; unfold hvx; rw [if_pos (Nat.le_of_ble_eq_true h1), h1]; rfl
  | _ => rw [hty] at hf; cases hf
theorem okc_ini {tg : List Nat} {t : Nat} (ht : t ≤ 7) : okc tg (t, am_ini t) := by
  refine ⟨Or.inl ⟨ht, ini_len ht⟩, fun k x hx => ?_⟩
  have hk : k < cF t := by rw [← ini_len ht]; exact (List.getElem?_eq_some_iff.mp hx).1
  have hx : (am_ini t)[k]? = some x := hx
  rw [ini_at ht hk] at hx
  show okx tg (sty t k) x
  cases hb : Nat.ble 100 (sty t k) with
  | true =>
    rw [hb] at hx
    have hx : x = -1 := (Option.some.inj hx).symm
    subst hx
    exact ⟨fun _ => ⟨by omega, by omega⟩, fun _ => ⟨by omega, by omega⟩, fun _ q => absurd q (by omega)⟩
  | false =>
    rw [hb] at hx
    have hx : x = 0 := (Option.some.inj hx).symm
    subst hx
    exact ⟨fun _ => ⟨by omega, by omega⟩, fun _ => ⟨by omega, by omega⟩, fun q => by rw [Nat.ble_eq_true_of_le q] at hb; cases hb⟩
theorem gA_up {a0 a1 : Nat} (hK : KS G a0 a1 s) : ∀ q, s.heap.size ≤ q → gA G q := fun q hq => Nat.le_trans hK.2.2.2.2.2.2.2.2.2.2.2.1 hq
theorem g_new (hx : p.tables.exec = Jvm.exec) (hb : c.code = cc) {own : String} (hown : s.vm.findClass own = some mm.cls) (hts : ∀ w ∈ WSg, w.before args s = true) {a0 a1 : Nat} (hK : KS G a0 a1 s) {i t : Nat} (hd : decode cc pc = .ok (.new i, 3)) (ht : t ≤ 7) (hlk : (Cond.classLink own i (cN t)).before args s = true)
    (hrc : h.length + 1 ≤ n0 + R.cells) (hrs : tot h + (am_ini t).length ≤ t0 + R.slots) (hN : Gd G p l e R s mm args below meth c Q nL n0 t0 as0 (pc + 3) ls ((100 + t, Int.ofNat h.length) :: st) (h ++ [(t, am_ini t)])) : Gd G p l e R s mm args below meth c Q nL n0 t0 as0 pc ls st h := by
  intro as H locs cells slots lsA hE hR hS hL hO hc hs
  rw [ini_len ht] at hrs
  refine va_new (fs := encF [] t (am_ini t)) hx hb hts (wsIn ht) (cTy t) (tyOK ht) hown hlk (hts _ (instIn ht).1) (hts _ (instIn ht).2) hK.1 hR.2.2.2.2.2.1 hR.2.2.2.2.2.2 hS (gA_up hK) (clA_at ht) (dflt ht) (by omega) (by omega) hd (fun q H1 hP1 hD1 hS1 => ?_)
  have he : enc G (as ++ [q]) (t, am_ini t) = .inr (t, encF [] t (am_ini t)) := by rw [enc_o ht, encF_ini]
  rw [← he] at hP1 hD1
  exact g_mk hN hE hR hL hO hc hs (ini_len ht) (okc_ini ht) q H1 hP1 hD1 hS1
theorem g_newaI (hx : p.tables.exec = Jvm.exec) (hb : c.code = cc) (hts : ∀ w ∈ WSg, w.before args s = true) {a0 a1 : Nat} (hK : KS G a0 a1 s) {at' : ArrayType} {n : Int} (hd : decode cc pc = .ok (.newarray at', 2)) (hty : newarray.typeOf at' = .int) (hn : 0 ≤ n ∧ n ≤ 1000)
    (hrc : h.length + 1 ≤ n0 + R.cells) (hrs : tot h + n.toNat ≤ t0 + R.slots) (hN : Gd G p l e R s mm args below meth c Q nL n0 t0 as0 (pc + 2) ls ((120, Int.ofNat h.length) :: st) (h ++ [(20, List.replicate n.toNat 0)])) : Gd G p l e R s mm args below meth c Q nL n0 t0 as0 pc ls ((0, n) :: st) h := by
  intro as H locs cells slots lsA hE hR hS hL hO hc hs
  have hnI := ok0 (oks_hd hO)
  rw [List.map_cons, cv0]
  obtain ⟨N, hNe⟩ : ∃ N : Nat, N = n.toNat := ⟨_, rfl⟩
  rw [← hNe] at hN hrs
  refine va_newa (a0 := (N, .inl (fun _ => 0))) hx hb (by rw [hty]; exact hts _ wg_arI) hty hK.1 hR.2.2.2.2.2.1 hR.2.2.2.2.2.2 hS (gA_up hK) (fun cA => rfl) (by rw [ngI hnI]; omega) (by rw [clI hnI]; exact hNe.symm) (by show N * 4 ≤ 536870912; omega) (by omega) (by omega) hd (fun q cA H1 hK1 hP1 hD1 hS1 => ?_)
  have hcA : cA = gC G 20 := by
    have h1 : s.vm.findClass _ = some cA := (hK1.2 6 (cA, .int) rfl).2
    have h2 : s.vm.findClass _ = some (gC G 20) := (hK.1.2 0 (gC G 20, .int) rfl).2
    exact Option.some.inj (h1.symm.trans h2)
  subst hcA
  have he : enc G (as ++ [q]) (20, List.replicate N 0) = .inl (gC G 20, N, .inl (fun _ => 0)) := by
    show (Sum.inl (gC G 20, (List.replicate N (0 : Int)).length, .inl (fun j => Int32.ofInt ((List.replicate N (0 : Int)).getD j 0))) : va_E) = _
    have hf : (fun j => Int32.ofInt ((List.replicate N (0 : Int)).getD j 0)) = fun _ => 0 := by
      funext j
      rw [gdE, List.getElem?_replicate]
      by_cases hj : j < N
      · rw [if_pos hj]; rfl
      · rw [if_neg hj]; rfl
    rw [hf, List.length_replicate]
  rw [← he] at hP1 hD1
  refine g_mk hN hE hR hL (oks_tl hO) hc hs (List.length_replicate) ⟨Or.inr ⟨show 20 ≤ 20 by omega, show 20 ≤ 25 by omega⟩, fun k x hx => ?_⟩ q H1 hP1 hD1 hS1
  have hx : (List.replicate N (0 : Int))[k]? = some x := hx
  have hx0 : x = 0 := List.eq_of_mem_replicate (List.mem_of_getElem? hx)
  subst hx0
  exact ⟨fun _ => inI0, fun _ => inL0, fun q => absurd q (show ¬ _ by simp [sty])⟩
theorem g_newaZ (hx : p.tables.exec = Jvm.exec) (hb : c.code = cc) (hts : ∀ w ∈ WSg, w.before args s = true) {a0 a1 : Nat} (hK : KS G a0 a1 s) {at' : ArrayType} {n : Int} (hd : decode cc pc = .ok (.newarray at', 2)) (hty : newarray.typeOf at' = .boolean) (hn : 0 ≤ n ∧ n ≤ 1000)
    (hrc : h.length + 1 ≤ n0 + R.cells) (hrs : tot h + n.toNat ≤ t0 + R.slots) (hN : Gd G p l e R s mm args below meth c Q nL n0 t0 as0 (pc + 2) ls ((121, Int.ofNat h.length) :: st) (h ++ [(21, List.replicate n.toNat 0)])) : Gd G p l e R s mm args below meth c Q nL n0 t0 as0 pc ls ((0, n) :: st) h := by
  intro as H locs cells slots lsA hE hR hS hL hO hc hs
  have hnI := ok0 (oks_hd hO)
  rw [List.map_cons, cv0]
  obtain ⟨N, hNe⟩ : ∃ N : Nat, N = n.toNat := ⟨_, rfl⟩
  rw [← hNe] at hN hrs
  refine va_newa (a0 := (N, .inl (fun _ => 0))) hx hb (by rw [hty]; exact hts _ wg_arZ) hty hK.1 hR.2.2.2.2.2.1 hR.2.2.2.2.2.2 hS (gA_up hK) (fun cA => rfl) (by rw [ngI hnI]; omega) (by rw [clI hnI]; exact hNe.symm) (by show N * 1 ≤ 536870912; omega) (by omega) (by omega) hd (fun q cA H1 hK1 hP1 hD1 hS1 => ?_)
  have hcA : cA = gC G 21 := by
    have h1 : s.vm.findClass _ = some cA := (hK1.2 6 (cA, .boolean) rfl).2
    have h2 : s.vm.findClass _ = some (gC G 21) := (hK.1.2 1 (gC G 21, .boolean) rfl).2
    exact Option.some.inj (h1.symm.trans h2)
  subst hcA
  have he : enc G (as ++ [q]) (21, List.replicate N 0) = .inl (gC G 21, N, .inl (fun _ => 0)) := by
    show (Sum.inl (gC G 21, (List.replicate N (0 : Int)).length, .inl (fun j => Int32.ofInt ((List.replicate N (0 : Int)).getD j 0))) : va_E) = _
    have hf : (fun j => Int32.ofInt ((List.replicate N (0 : Int)).getD j 0)) = fun _ => 0 := by
      funext j
      rw [gdE, List.getElem?_replicate]
      by_cases hj : j < N
      · rw [if_pos hj]; rfl
      · rw [if_neg hj]; rfl
    rw [hf, List.length_replicate]
  rw [← he] at hP1 hD1
  refine g_mk hN hE hR hL (oks_tl hO) hc hs (List.length_replicate) ⟨Or.inr ⟨show 20 ≤ 21 by omega, show 21 ≤ 25 by omega⟩, fun k x hx => ?_⟩ q H1 hP1 hD1 hS1
  have hx : (List.replicate N (0 : Int))[k]? = some x := hx
  have hx0 : x = 0 := List.eq_of_mem_replicate (List.mem_of_getElem? hx)
  subst hx0
  exact ⟨fun _ => inI0, fun _ => inL0, fun q => absurd q (show ¬ _ by simp [sty])⟩
theorem g_newaC (hx : p.tables.exec = Jvm.exec) (hb : c.code = cc) (hts : ∀ w ∈ WSg, w.before args s = true) {a0 a1 : Nat} (hK : KS G a0 a1 s) {at' : ArrayType} {n : Int} (hd : decode cc pc = .ok (.newarray at', 2)) (hty : newarray.typeOf at' = .char) (hn : 0 ≤ n ∧ n ≤ 1000)
    (hrc : h.length + 1 ≤ n0 + R.cells) (hrs : tot h + n.toNat ≤ t0 + R.slots) (hN : Gd G p l e R s mm args below meth c Q nL n0 t0 as0 (pc + 2) ls ((122, Int.ofNat h.length) :: st) (h ++ [(22, List.replicate n.toNat 0)])) : Gd G p l e R s mm args below meth c Q nL n0 t0 as0 pc ls ((0, n) :: st) h := by
  intro as H locs cells slots lsA hE hR hS hL hO hc hs
  have hnI := ok0 (oks_hd hO)
  rw [List.map_cons, cv0]
  obtain ⟨N, hNe⟩ : ∃ N : Nat, N = n.toNat := ⟨_, rfl⟩
  rw [← hNe] at hN hrs
  refine va_newa (a0 := (N, .inl (fun _ => 0))) hx hb (by rw [hty]; exact hts _ wg_arC) hty hK.1 hR.2.2.2.2.2.1 hR.2.2.2.2.2.2 hS (gA_up hK) (fun cA => rfl) (by rw [ngI hnI]; omega) (by rw [clI hnI]; exact hNe.symm) (by show N * 2 ≤ 536870912; omega) (by omega) (by omega) hd (fun q cA H1 hK1 hP1 hD1 hS1 => ?_)
  have hcA : cA = gC G 22 := by
    have h1 : s.vm.findClass _ = some cA := (hK1.2 6 (cA, .char) rfl).2
    have h2 : s.vm.findClass _ = some (gC G 22) := (hK.1.2 2 (gC G 22, .char) rfl).2
    exact Option.some.inj (h1.symm.trans h2)
  subst hcA
  have he : enc G (as ++ [q]) (22, List.replicate N 0) = .inl (gC G 22, N, .inl (fun _ => 0)) := by
    show (Sum.inl (gC G 22, (List.replicate N (0 : Int)).length, .inl (fun j => Int32.ofInt ((List.replicate N (0 : Int)).getD j 0))) : va_E) = _
    have hf : (fun j => Int32.ofInt ((List.replicate N (0 : Int)).getD j 0)) = fun _ => 0 := by
      funext j
      rw [gdE, List.getElem?_replicate]
      by_cases hj : j < N
      · rw [if_pos hj]; rfl
      · rw [if_neg hj]; rfl
    rw [hf, List.length_replicate]
  rw [← he] at hP1 hD1
  refine g_mk hN hE hR hL (oks_tl hO) hc hs (List.length_replicate) ⟨Or.inr ⟨show 20 ≤ 22 by omega, show 22 ≤ 25 by omega⟩, fun k x hx => ?_⟩ q H1 hP1 hD1 hS1
  have hx : (List.replicate N (0 : Int))[k]? = some x := hx
  have hx0 : x = 0 := List.eq_of_mem_replicate (List.mem_of_getElem? hx)
  subst hx0
  exact ⟨fun _ => inI0, fun _ => inL0, fun q => absurd q (show ¬ _ by simp [sty])⟩
theorem g_newaL (hx : p.tables.exec = Jvm.exec) (hb : c.code = cc) (hts : ∀ w ∈ WSg, w.before args s = true) {a0 a1 : Nat} (hK : KS G a0 a1 s) {at' : ArrayType} {n : Int} (hd : decode cc pc = .ok (.newarray at', 2)) (hty : newarray.typeOf at' = .long) (hn : 0 ≤ n ∧ n ≤ 1000)
    (hrc : h.length + 1 ≤ n0 + R.cells) (hrs : tot h + n.toNat ≤ t0 + R.slots) (hN : Gd G p l e R s mm args below meth c Q nL n0 t0 as0 (pc + 2) ls ((123, Int.ofNat h.length) :: st) (h ++ [(23, List.replicate n.toNat 0)])) : Gd G p l e R s mm args below meth c Q nL n0 t0 as0 pc ls ((0, n) :: st) h := by
  intro as H locs cells slots lsA hE hR hS hL hO hc hs
  have hnI := ok0 (oks_hd hO)
  rw [List.map_cons, cv0]
  obtain ⟨N, hNe⟩ : ∃ N : Nat, N = n.toNat := ⟨_, rfl⟩
  rw [← hNe] at hN hrs
  refine va_newa (a0 := (N, .inr (.inl (fun _ => 0)))) hx hb (by rw [hty]; exact hts _ wg_arL) hty hK.1 hR.2.2.2.2.2.1 hR.2.2.2.2.2.2 hS (gA_up hK) (fun cA => rfl) (by rw [ngI hnI]; omega) (by rw [clI hnI]; exact hNe.symm) (by show N * 8 ≤ 536870912; omega) (by omega) (by omega) hd (fun q cA H1 hK1 hP1 hD1 hS1 => ?_)
  have hcA : cA = gC G 23 := by
    have h1 : s.vm.findClass _ = some cA := (hK1.2 6 (cA, .long) rfl).2
    have h2 : s.vm.findClass _ = some (gC G 23) := (hK.1.2 3 (gC G 23, .long) rfl).2
    exact Option.some.inj (h1.symm.trans h2)
  subst hcA
  have he : enc G (as ++ [q]) (23, List.replicate N 0) = .inl (gC G 23, N, .inr (.inl (fun _ => 0))) := by
    show (Sum.inl (gC G 23, (List.replicate N (0 : Int)).length, .inr (.inl (fun j => Int64.ofInt ((List.replicate N (0 : Int)).getD j 0)))) : va_E) = _
    have hf : (fun j => Int64.ofInt ((List.replicate N (0 : Int)).getD j 0)) = fun _ => 0 := by
      funext j
      rw [gdE, List.getElem?_replicate]
      by_cases hj : j < N
      · rw [if_pos hj]; rfl
      · rw [if_neg hj]; rfl
    rw [hf, List.length_replicate]
  rw [← he] at hP1 hD1
  refine g_mk hN hE hR hL (oks_tl hO) hc hs (List.length_replicate) ⟨Or.inr ⟨show 20 ≤ 23 by omega, show 23 ≤ 25 by omega⟩, fun k x hx => ?_⟩ q H1 hP1 hD1 hS1
  have hx : (List.replicate N (0 : Int))[k]? = some x := hx
  have hx0 : x = 0 := List.eq_of_mem_replicate (List.mem_of_getElem? hx)
  subst hx0
  exact ⟨fun _ => inI0, fun _ => inL0, fun q => absurd q (show ¬ _ by simp [sty])⟩
theorem g_anewB (hx : p.tables.exec = Jvm.exec) (hb : c.code = cc) {own : String} (hown : s.vm.findClass own = some mm.cls) {a0 a1 : Nat} (hK : KS G a0 a1 s) {i : Nat} {n : Int} (hd : decode cc pc = .ok (.anewarray i, 3)) (hlk : (Cond.classLink own i RX0).before args s = true) (hn : 0 ≤ n ∧ n ≤ 1000)
    (hrc : h.length + 1 ≤ n0 + R.cells) (hrs : tot h + n.toNat ≤ t0 + R.slots) (hN : Gd G p l e R s mm args below meth c Q nL n0 t0 as0 (pc + 3) ls ((124, Int.ofNat h.length) :: st) (h ++ [(24, List.replicate n.toNat (-1))])) : Gd G p l e R s mm args below meth c Q nL n0 t0 as0 pc ls ((0, n) :: st) h := by
  intro as H locs cells slots lsA hE hR hS hL hO hc hs
  have hnI := ok0 (oks_hd hO)
  rw [List.map_cons, cv0]
  obtain ⟨N, hNe⟩ : ∃ N : Nat, N = n.toNat := ⟨_, rfl⟩
  rw [← hNe] at hN hrs
  refine va_newq (N' := N) hx hb hown hlk hK.2.2.2.2.2.2.2.2.2.1 hK.1 hR.2.2.2.2.2.1 hR.2.2.2.2.2.2 hS (gA_up hK) (by rw [ngI hnI]; omega) (by rw [clI hnI]; exact hNe.symm) (by omega) (by omega) (by omega) hd (fun q cA H1 hK1 hP1 hD1 hS1 => ?_)
  have hcA : cA = gC G 24 := by
    obtain ⟨_, _, _, _, _, h1⟩ := (hK1.2 6 (cA, .object RX0) rfl).2
    obtain ⟨_, _, _, _, _, h2⟩ := (hK.1.2 4 (gC G 24, .object RX0) rfl).2
    exact Option.some.inj (h1.symm.trans h2)
  subst hcA
  have he : enc G (as ++ [q]) (24, List.replicate N (-1)) = .inl (gC G 24, N, .inr (.inr (.inr (.inr (fun _ => none))))) := by
    show (Sum.inl (gC G 24, (List.replicate N (-1 : Int)).length, .inr (.inr (.inr (.inr (fun j => hro (as ++ [q]) ((List.replicate N (-1 : Int)).getD j (-1))))))) : va_E) = _
    have hf : (fun j => hro (as ++ [q]) ((List.replicate N (-1 : Int)).getD j (-1))) = fun _ => none := by
      funext j
      rw [gdE, List.getElem?_replicate]
      by_cases hj : j < N
      · rw [if_pos hj]; rfl
      · rw [if_neg hj]; rfl
    rw [hf, List.length_replicate]
  rw [← he] at hP1 hD1
  refine g_mk hN hE hR hL (oks_tl hO) hc hs (List.length_replicate) ⟨Or.inr ⟨show 20 ≤ 24 by omega, show 24 ≤ 25 by omega⟩, fun k x hx => ?_⟩ q H1 hP1 hD1 hS1
  have hx : (List.replicate N (-1 : Int))[k]? = some x := hx
  have hx0 : x = -1 := List.eq_of_mem_replicate (List.mem_of_getElem? hx)
  subst hx0
  exact ⟨fun _ => ⟨by omega, by omega⟩, fun _ => ⟨by omega, by omega⟩, fun _ q => absurd q (by omega)⟩
theorem g_anewX (hx : p.tables.exec = Jvm.exec) (hb : c.code = cc) {own : String} (hown : s.vm.findClass own = some mm.cls) {a0 a1 : Nat} (hK : KS G a0 a1 s) {i : Nat} {n : Int} (hd : decode cc pc = .ok (.anewarray i, 3)) (hlk : (Cond.classLink own i RX1).before args s = true) (hn : 0 ≤ n ∧ n ≤ 1000)
    (hrc : h.length + 1 ≤ n0 + R.cells) (hrs : tot h + n.toNat ≤ t0 + R.slots) (hN : Gd G p l e R s mm args below meth c Q nL n0 t0 as0 (pc + 3) ls ((125, Int.ofNat h.length) :: st) (h ++ [(25, List.replicate n.toNat (-1))])) : Gd G p l e R s mm args below meth c Q nL n0 t0 as0 pc ls ((0, n) :: st) h := by
  intro as H locs cells slots lsA hE hR hS hL hO hc hs
  have hnI := ok0 (oks_hd hO)
  rw [List.map_cons, cv0]
  obtain ⟨N, hNe⟩ : ∃ N : Nat, N = n.toNat := ⟨_, rfl⟩
  rw [← hNe] at hN hrs
  refine va_newq (N' := N) hx hb hown hlk hK.2.2.2.2.2.2.2.2.2.2.1 hK.1 hR.2.2.2.2.2.1 hR.2.2.2.2.2.2 hS (gA_up hK) (by rw [ngI hnI]; omega) (by rw [clI hnI]; exact hNe.symm) (by omega) (by omega) (by omega) hd (fun q cA H1 hK1 hP1 hD1 hS1 => ?_)
  have hcA : cA = gC G 25 := by
    obtain ⟨_, _, _, _, _, h1⟩ := (hK1.2 6 (cA, .object RX1) rfl).2
    obtain ⟨_, _, _, _, _, h2⟩ := (hK.1.2 5 (gC G 25, .object RX1) rfl).2
    exact Option.some.inj (h1.symm.trans h2)
  subst hcA
  have he : enc G (as ++ [q]) (25, List.replicate N (-1)) = .inl (gC G 25, N, .inr (.inr (.inr (.inr (fun _ => none))))) := by
    show (Sum.inl (gC G 25, (List.replicate N (-1 : Int)).length, .inr (.inr (.inr (.inr (fun j => hro (as ++ [q]) ((List.replicate N (-1 : Int)).getD j (-1))))))) : va_E) = _
    have hf : (fun j => hro (as ++ [q]) ((List.replicate N (-1 : Int)).getD j (-1))) = fun _ => none := by
      funext j
      rw [gdE, List.getElem?_replicate]
      by_cases hj : j < N
      · rw [if_pos hj]; rfl
      · rw [if_neg hj]; rfl
    rw [hf, List.length_replicate]
  rw [← he] at hP1 hD1
  refine g_mk hN hE hR hL (oks_tl hO) hc hs (List.length_replicate) ⟨Or.inr ⟨show 20 ≤ 25 by omega, show 25 ≤ 25 by omega⟩, fun k x hx => ?_⟩ q H1 hP1 hD1 hS1
  have hx : (List.replicate N (-1 : Int))[k]? = some x := hx
  have hx0 : x = -1 := List.eq_of_mem_replicate (List.mem_of_getElem? hx)
  subst hx0
  exact ⟨fun _ => ⟨by omega, by omega⟩, fun _ => ⟨by omega, by omega⟩, fun _ q => absurd q (by omega)⟩
theorem catE {as : List Nat} : ∀ (st : List AV), ((st.map (cvv G as)).map (fun v => v.category)).sum = catL st := by
  intro st
  induction st with
  | nil => rfl
  | cons v st ih =>
    rw [List.map_cons, List.map_cons, List.sum_cons, ih, cvv_cat]
    show _ = cond (Nat.beq v.1 2) (2 + catL st) (1 + catL st)
    by_cases q : v.1 = 2
    · rw [if_pos q, q]; rfl
    · rw [if_neg q]
      have : Nat.beq v.1 2 = false := by
        cases hb : Nat.beq v.1 2 with
        | true => exact absurd (Nat.eq_of_beq_eq_true hb) q
        | false => rfl
      rw [this]; rfl
theorem cpyE {xs ys : List Int} {n : Int} (h1 : n.toNat ≤ xs.length) (h2 : n.toNat ≤ ys.length) : (a_cpy xs ys n).length = ys.length ∧ (fun j => Int32.ofInt ((a_cpy xs ys n).getD j 0)) = va_cpy (fun j => Int32.ofInt (xs.getD j 0)) (fun j => Int32.ofInt (ys.getD j 0)) 0 0 n.toNat := by
  unfold a_cpy
  have hl : (xs.take n.toNat).length = n.toNat := by rw [List.length_take]; omega
  refine ⟨by rw [List.length_append, List.length_drop, hl]; omega, ?_⟩
  funext j
  show Int32.ofInt _ = if 0 ≤ j ∧ j < 0 + n.toNat then Int32.ofInt (xs.getD (0 + (j - 0)) 0) else Int32.ofInt (ys.getD j 0)
  rw [gdE (xs.take n.toNat ++ ys.drop n.toNat), show 0 + (j - 0) = j by omega]
  by_cases hj : j < n.toNat
  · rw [if_pos ⟨Nat.zero_le _, by omega⟩, List.getElem?_append_left (by omega), List.getElem?_take, if_pos hj, ← gdE xs]
  · rw [if_neg (by omega), List.getElem?_append_right (by omega), hl, List.getElem?_drop, show n.toNat + (j - n.toNat) = j by omega, ← gdE ys]
theorem okc_cpy {tg : List Nat} {xs ys : List Int} {n : Int} (hx : okc tg (20, xs)) (hy : okc tg (20, ys)) : okc tg (20, a_cpy xs ys n) := by
  refine ⟨Or.inr ⟨by show 20 ≤ 20; omega, by show 20 ≤ 25; omega⟩, fun k x hk => ?_⟩
  have hm : x ∈ xs.take n.toNat ++ ys.drop n.toNat := List.mem_of_getElem? hk
  rcases List.mem_append.mp hm with q | q
  · obtain ⟨j, hj⟩ := List.getElem?_of_mem (List.mem_of_mem_take q)
    exact hx.2 j x hj
  · obtain ⟨j, hj⟩ := List.getElem?_of_mem (List.mem_of_mem_drop q)
    exact hy.2 j x hj
theorem g_cpy (hx : p.tables.exec = Jvm.exec) (hb : c.code = cc) (hml : c.maxLocals = nL) {own : String} (hown : s.vm.findClass own = some mm.cls) (hts : ∀ w ∈ WSg, w.before args s = true) {a0 a1 : Nat} (hK : KS G a0 a1 s) {i : Nat} {a b n : Int} {xs ys : List Int} (hd : decode cc pc = .ok (.invokestatic i, 3)) (hlk : (Cond.methodLink own i arr0).before args s = true)
    (hct : catL st ≤ 8) (hfr : 1 ≤ R.frames) (hlo : 60 ≤ R.locals) (ha0 : 0 ≤ a) (ha : h[a.toNat]? = some (20, xs)) (hb0 : 0 ≤ b) (hbb : h[b.toNat]? = some (20, ys)) (hn : 0 ≤ n) (h1 : n.toNat ≤ xs.length) (h2 : n.toNat ≤ ys.length)
    (hN : Gd G p l e R s mm args below meth c Q nL n0 t0 as0 (pc + 3) ls st (h.set b.toNat (20, a_cpy xs ys n))) : Gd G p l e R s mm args below meth c Q nL n0 t0 as0 pc ls ((0, n) :: (0, 0) :: (120, b) :: (0, 0) :: (120, a) :: st) h := by
  intro as H locs cells slots lsA hE hR hS hL hO hc hs
  have hnI := ok0 (oks_hd hO)
  have a2 := hR.at2 ha (by omega)
  have b2 := hR.at2 hbb (by omega)
  have hea : (wd G as h)[a.toNat - 2]? = some (as.getD a.toNat 0, .inl (gC G 20, xs.length, .inl (fun j => Int32.ofInt (xs.getD j 0)))) := wd_get (G := G) (as := as) a2 ha
  have heb : (wd G as h)[b.toNat - 2]? = some (as.getD b.toNat 0, .inl (gC G 20, ys.length, .inl (fun j => Int32.ofInt (ys.getD j 0)))) := wd_get (G := G) (as := as) b2 hbb
  have hoa := hR.2.2.2.2.1 _ _ a2 ha
  have hob := hR.2.2.2.2.1 _ _ b2 hbb
  rw [List.map_cons, List.map_cons, List.map_cons, List.map_cons, List.map_cons, cvR G as (show 100 ≤ 120 by omega), cvR G as (show 100 ≤ 120 by omega), cv0, cv0]
  have hz : (Int32.ofInt 0).toNatClampNeg = 0 := rfl
  refine va_copyi hx hb (hml.trans hL.2.2.1.symm) hown hlk (hts _ wg_cpN) (hts _ wg_cpS) (hts _ wg_cpI) hK.1 hR.2.2.2.2.2.1 hR.2.2.2.2.2.2 hS (a.toNat - 2) (b.toNat - 2) 0 0 hea heb rfl rfl rfl (by decide) (by decide) (by rw [ngI hnI]; omega) (by rw [clI hnI, hz]; omega) (by rw [clI hnI, hz]; omega) (fun j _ => rfl) hfr ?_ hd (fun H1 locs1 hP1 hD1 hS1 => ?_)
  · rw [catE]
    have : nativeFrameWords "java/lang/System" "arraycopy" 5 + 11 ≤ 52 := by decide +kernel
    omega
  · rw [clI hnI, hz, ← (cpyE h1 h2).2, ← (cpyE h1 h2).1] at hP1 hD1
    have hq : enc G as (20, a_cpy xs ys n) = .inl (gC G 20, (a_cpy xs ys n).length, .inl (fun j => Int32.ofInt ((a_cpy xs ys n).getD j 0))) := rfl
    rw [← hq] at hP1 hD1
    have htg := tgs_set (ys := a_cpy xs ys n) hbb
    exact hN as H1 locs1 cells slots lsA hE (hR.set b2 hbb (okc_cpy hoa hob) hP1 hD1) hS1 (by rw [htg]; exact hL) (by rw [htg]; exact oks_tl (oks_tl (oks_tl (oks_tl (oks_tl hO))))) (by rw [List.length_set]; exact hc) (by rw [tot_set hbb (cpyE h1 h2).1]; exact hs)
theorem g_max (hx : p.tables.exec = Jvm.exec) (hb : c.code = cc) (hml : c.maxLocals = nL) {own : String} (hown : s.vm.findClass own = some mm.cls) (hts : ∀ w ∈ WSg, w.before args s = true) {i : Nat} {x y : Int} (hd : decode cc pc = .ok (.invokestatic i, 3)) (hlk : (Cond.methodLink own i Lib.Math.max.name).before args s = true)
    (hct : catL st ≤ 8) (hfr : 1 ≤ R.frames) (hlo : 60 ≤ R.locals) (hrc : h.length ≤ n0 + R.cells) (hrs : tot h ≤ t0 + R.slots) (hN : Gd G p l e R s mm args below meth c Q nL n0 t0 as0 (pc + 3) ls ((0, a_max x y) :: st) h) : Gd G p l e R s mm args below meth c Q nL n0 t0 as0 pc ls ((0, y) :: (0, x) :: st) h := by
  intro as H locs cells slots lsA hE hR hS hL hO hc hs
  have hy := ok0 (oks_hd hO)
  have hx' := ok0 (oks_hd (oks_tl hO))
  have hkk := hN as H locs cells slots lsA hE hR hS hL (oks_cons (ok0I (oMax hx' hy).2) (oks_tl (oks_tl hO))) hc hs
  rw [List.map_cons, cv0, (oMax hx' hy).1] at hkk
  exact va_mmax hx hb (hml.trans hL.2.2.1.symm) hown hlk (hts _ wg_mxS) (hts _ wg_maI) (hts _ wg_mxC) hfr (by rw [catE]; omega) (by omega) (by omega) hd hkk
theorem g_min (hx : p.tables.exec = Jvm.exec) (hb : c.code = cc) (hml : c.maxLocals = nL) {own : String} (hown : s.vm.findClass own = some mm.cls) (hts : ∀ w ∈ WSg, w.before args s = true) {i : Nat} {x y : Int} (hd : decode cc pc = .ok (.invokestatic i, 3)) (hlk : (Cond.methodLink own i Lib.Math.min.name).before args s = true)
    (hct : catL st ≤ 8) (hfr : 1 ≤ R.frames) (hlo : 60 ≤ R.locals) (hrc : h.length ≤ n0 + R.cells) (hrs : tot h ≤ t0 + R.slots) (hN : Gd G p l e R s mm args below meth c Q nL n0 t0 as0 (pc + 3) ls ((0, a_min x y) :: st) h) : Gd G p l e R s mm args below meth c Q nL n0 t0 as0 pc ls ((0, y) :: (0, x) :: st) h := by
  intro as H locs cells slots lsA hE hR hS hL hO hc hs
  have hy := ok0 (oks_hd hO)
  have hx' := ok0 (oks_hd (oks_tl hO))
  have hkk := hN as H locs cells slots lsA hE hR hS hL (oks_cons (ok0I (oMin hx' hy).2) (oks_tl (oks_tl hO))) hc hs
  rw [List.map_cons, cv0, (oMin hx' hy).1] at hkk
  exact va_mmin hx hb (hml.trans hL.2.2.1.symm) hown hlk (hts _ wg_mnS) (hts _ wg_maI) (hts _ wg_mnC) hfr (by rw [catE]; omega) (by omega) (by omega) hd hkk
theorem g_obj (hx : p.tables.exec = Jvm.exec) (hb : c.code = cc) (hml : c.maxLocals = nL) {own : String} (hown : s.vm.findClass own = some mm.cls) (hts : ∀ w ∈ WSg, w.before args s = true) {i t : Nat} {x : Int} (ht : 100 ≤ t) (hd : decode cc pc = .ok (.invokespecial i, 3)) (hlk : (Cond.methodLink own i Lib.objectInit).before args s = true)
    (hct : catL st ≤ 8) (hfr : 1 ≤ R.frames) (hlo : 60 ≤ R.locals) (hN : Gd G p l e R s mm args below meth c Q nL n0 t0 as0 (pc + 3) ls st h) : Gd G p l e R s mm args below meth c Q nL n0 t0 as0 pc ls ((t, x) :: st) h := by
  intro as H locs cells slots lsA hE hR hS hL hO hc hs
  have hkk := hN as H locs cells slots lsA hE hR hS hL (oks_tl hO) hc hs
  rw [List.map_cons, cvR G as ht]
  refine W.objInit hx hb hown hlk (hts _ wg_obM) (hts _ wg_obC) (g := F0 mm pc lsA (.ref (adr as x) :: st.map (cvv G as))) rfl (hL.2.2.1.trans hml.symm) rfl hd hfr ?_ hkk
  have hr := lv_room (m := mm) (pc := pc) (ls := lsA) (rest := .ref (adr as x) :: st.map (cvv G as)) (st := st.map (cvv G as)) (by rw [catE]; exact hct)
  omega
end MAKE
