/-! A step of the abstract machine is a step of the machine: switches, fields, arrays. -/
section HEAP
variable {p : Program} {l : Launch} {e : Env} {R : Room} {s : State} {mm : MethodId} {args : Array Value} {below : List Frame} {meth : Method} {c : Code} {Q : State → Prop}
variable {G : AG} {nL n0 t0 pc : Nat} {as0 : List Nat} {ls st : List AV} {h : AH} {cc : ByteArray}
theorem sw_inv {k : Nat → AR} {x : Int} {prs : List (Int × Nat)} {d : Nat} {r : Int × AH} (e0 : am_sw k x prs d = some r) : (∃ (j t : Nat), prs[j]? = some (x, t) ∧ k t = some r) ∨ ((∀ q ∈ prs, q.1 ≠ x) ∧ k d = some r) := by
  induction prs with
  | nil => exact Or.inr ⟨fun q hq => absurd hq List.not_mem_nil, e0⟩
  | cons a rs ih =>
    unfold am_sw at e0
    by_cases hq : x = a.1
    · rw [if_pos hq] at e0
      exact Or.inl ⟨0, a.2, by rw [hq]; rfl, e0⟩
    · rw [if_neg hq] at e0
      rcases ih e0 with ⟨j, t, h1, h2⟩ | ⟨h1, h2⟩
      · exact Or.inl ⟨j + 1, t, h1, h2⟩
      · refine Or.inr ⟨fun q hq' => ?_, h2⟩
        rcases List.mem_cons.mp hq' with rfl | z
        · exact fun z => hq z.symm
        · exact h1 q z
theorem g_tsw (hx : p.tables.exec = Jvm.exec) (hb : c.code = cc) {df lo hi : Int} {os : Array Int} {len d : Nat} {prs : List (Int × Nat)} {x : Int} {r : Int × AH} {k : Nat → AR} (hd : decode cc pc = .ok (.tableswitch df lo hi os, len))
    (h1 : (pc : Int) + df = (d : Int)) (h2 : hi = lo + (os.toList.length : Int) - 1) (h3 : prs.map Prod.fst = (List.range os.toList.length).map (fun (j : Nat) => lo + (j : Int))) (h4 : prs.map (fun q => (q.2 : Int)) = os.toList.map (fun f => (pc : Int) + f)) (e0 : am_sw k x prs d = some r)
    (hN : ∀ t, k t = some r → Gd G p l e R s mm args below meth c Q nL n0 t0 as0 t ls st h) : Gd G p l e R s mm args below meth c Q nL n0 t0 as0 pc ls ((0, x) :: st) h := by
  intro as H locs cells slots lsA hE hR hS hL hO hc hs
  have hxI := ok0 (oks_hd hO)
  have hlen : prs.length = os.toList.length := by have := congrArg List.length h3; simpa using this
  rcases sw_inv e0 with ⟨j, t, hj, hk⟩ | ⟨hno, hk⟩
  · have hjl : j < os.toList.length := by rw [← hlen]; exact (List.getElem?_eq_some_iff.mp hj).1
    have e1 : (prs.map Prod.fst)[j]? = some x := by rw [List.getElem?_map, hj]; rfl
    rw [h3, List.getElem?_map, List.getElem?_range hjl] at e1
    have e1 : lo + (j : Int) = x := by simpa using e1
    have e2 : (prs.map (fun q => (q.2 : Int)))[j]? = some (t : Int) := by rw [List.getElem?_map, hj]; rfl
    rw [h4, List.getElem?_map] at e2
    cases hf : os.toList[j]? with
    | none => rw [hf] at e2; cases e2
    | some f =>
      rw [hf] at e2
      have e2 : (pc : Int) + f = (t : Int) := by simpa using e2
      refine lv_tableIn (off := f) (tgt := t) hx hb hd ?_ ?_ ?_ e2 (hN t hk as H locs cells slots lsA hE hR hS hL (oks_tl hO) hc hs)
      · rw [toI hxI]; show ¬ x < lo; omega
      · rw [toI hxI]; show ¬ hi < x; omega
      · rw [toI hxI]
        show os[(x - lo).toNat]? = some f
        rw [show (x - lo).toNat = j by omega, ← Array.getElem?_toList]; exact hf
  · refine lv_tableOut (tgt := d) hx hb hd ?_ h1 (hN d hk as H locs cells slots lsA hE hR hS hL (oks_tl hO) hc hs)
    rw [toI hxI]
    show x < lo ∨ hi < x
    rcases Int.lt_or_le x lo with q | q
    · exact Or.inl q
    · rcases Int.lt_or_le hi x with q2 | q2
      · exact Or.inr q2
      · exfalso
        have hjl : (x - lo).toNat < os.toList.length := by omega
        have hjp : (x - lo).toNat < prs.length := by rw [hlen]; exact hjl
        have e1 : (prs.map Prod.fst)[(x - lo).toNat]? = some x := by
          rw [h3, List.getElem?_map, List.getElem?_range hjl]
          show some (lo + ((x - lo).toNat : Int)) = some x
          congr 1; omega
        rw [List.getElem?_map, List.getElem?_eq_getElem hjp] at e1
        exact hno _ (List.getElem_mem hjp) (by simpa using e1)
theorem lsw {k : Nat → AR} {x df : Int} {pc : Nat} {d : Nat} {r : Int × AH} (hdf : (pc : Int) + df = (d : Int)) : ∀ {ps : List (Int × Int)} {prs : List (Int × Nat)}, prs.map (fun q => (q.1, (q.2 : Int))) = ps.map (fun a => (a.1, (pc : Int) + a.2)) → am_sw k x prs d = some r → ∃ t : Nat, (pc : Int) + Op.lookupswitch.offset ps df x = (t : Int) ∧ k t = some r := by
  intro ps
  induction ps with
  | nil =>
    intro prs hp e0
    cases prs with
    | nil => exact ⟨d, hdf, e0⟩
    | cons a b => cases hp
  | cons a ps ih =>
    intro prs hp e0
    cases prs with
    | nil => cases hp
    | cons b prs =>
      simp only [List.map_cons, List.cons.injEq, Prod.mk.injEq] at hp
      obtain ⟨⟨p1, p2⟩, p3⟩ := hp
      unfold am_sw at e0
      rw [show a = (a.1, a.2) from rfl, Op.lookupswitch.offset_cons]
      by_cases hq : x = b.1
      · rw [if_pos hq] at e0
        rw [if_pos (by rw [← p1, hq])]
        exact ⟨b.2, p2.symm, e0⟩
      · rw [if_neg hq] at e0
        rw [if_neg (by rw [← p1]; first | exact hq | exact fun z => hq z.symm)]
        exact ih p3 e0
theorem g_lsw (hx : p.tables.exec = Jvm.exec) (hb : c.code = cc) {df : Int} {ps : Array (Int × Int)} {len d : Nat} {prs : List (Int × Nat)} {x : Int} {r : Int × AH} {k : Nat → AR} (hd : decode cc pc = .ok (.lookupswitch df ps, len))
    (h1 : (pc : Int) + df = (d : Int)) (h2 : (ps.toList.zip (ps.toList.drop 1)).all (fun (a, next) => a.1 < next.1) = true) (h4 : prs.map (fun q => (q.1, (q.2 : Int))) = ps.toList.map (fun a => (a.1, (pc : Int) + a.2))) (e0 : am_sw k x prs d = some r)
    (hN : ∀ t, k t = some r → Gd G p l e R s mm args below meth c Q nL n0 t0 as0 t ls st h) : Gd G p l e R s mm args below meth c Q nL n0 t0 as0 pc ls ((0, x) :: st) h := by
  intro as H locs cells slots lsA hE hR hS hL hO hc hs
  have hxI := ok0 (oks_hd hO)
  obtain ⟨t, ht, hk⟩ := lsw h1 h4 e0
  exact lv_lookup (tgt := t) hx hb hd h2 rfl (by rw [toI hxI]; exact ht) (hN t hk as H locs cells slots lsA hE hR hS hL (oks_tl hO) hc hs)
theorem enc_o {as : List Nat} {t : Nat} {xs : List Int} (ht : t ≤ 7) : enc G as (t, xs) = .inr (t, encF as t xs) := by
  unfold enc
  rw [if_neg (show ¬ t = 23 by omega), if_neg (show ¬ 24 ≤ t by omega), if_neg (show ¬ 20 ≤ t by omega)]
theorem encF_get {as : List Nat} {t k : Nat} {xs : List Int} {x : Int} (hx : xs[k]? = some x) : (encF as t xs)[k]? = some (hvx as (sty t k) x) := by
  have hl := (List.getElem?_eq_some_iff.mp hx).1
  unfold encF
  rw [List.getElem?_map, List.getElem?_range hl]
  simp only [Option.map_some]
  rw [gdE xs, hx]; rfl
theorem encF_set {as : List Nat} {t k : Nat} {xs : List Int} {x : Int} (hk : k < xs.length) : encF as t (xs.set k x) = (encF as t xs).set k (hvx as (sty t k) x) := by
  apply List.ext_getElem?
  intro j
  rw [List.getElem?_set]
  unfold encF
  rw [List.length_map, List.length_range, List.length_set]
  by_cases hj : k = j
  · subst hj
    rw [if_pos rfl, if_pos hk, List.getElem?_map, List.getElem?_range hk]
    simp only [Option.map_some]
    rw [gdE (xs.set k x), List.getElem?_set, if_pos rfl, if_pos hk]; rfl
  · rw [if_neg hj, List.getElem?_map, List.getElem?_map]
    by_cases hl : j < xs.length
    · rw [List.getElem?_range hl]
      simp only [Option.map_some]
      rw [gdE (xs.set k x), List.getElem?_set, if_neg hj, ← gdE]
    · rw [List.getElem?_eq_none (by rw [List.length_range]; omega)]; rfl
theorem g_getf (hx : p.tables.exec = Jvm.exec) (hb : c.code = cc) {own : String} (hown : s.vm.findClass own = some mm.cls) (hts : ∀ w ∈ WSg, w.before args s = true) {a0 a1 : Nat} (hK : KS G a0 a1 s) {i t k : Nat} {a x : Int} {xs : List Int} {v : AV} (hd : decode cc pc = .ok (.getfield i, 3)) (ht : t ≤ 7) (hk : k < cF t)
    (hlk : (Cond.fieldLink own i (cN t) (cT t k).2.1 (cT t k).2.2.1).before args s = true ∨ (Cond.fieldLinkNest own i (cN t) (cT t k).2.1 (cT t k).2.2.1 RX7).before args s = true) (h0 : 0 ≤ a) (hc0 : h[a.toNat]? = some (t, xs)) (hx0 : xs[k]? = some x)
    (hv : ∀ as, hvx as (sty t k) x = cvv G as v) (hvo : (okx (tgs h) (sty t k) x) → okv (tgs h) v) (hN : Gd G p l e R s mm args below meth c Q nL n0 t0 as0 (pc + 3) ls (v :: st) h) : Gd G p l e R s mm args below meth c Q nL n0 t0 as0 pc ls ((100 + t, a) :: st) h := by
  intro as H locs cells slots lsA hE hR hS hL hO hc hs
  have h2 := hR.at2 hc0 (by omega)
  have he := wd_get (G := G) (as := as) h2 hc0
  rw [enc_o ht] at he
  have hok := (hR.2.2.2.2.1 _ _ h2 hc0).2 k x hx0
  have hfv := encF_get (as := as) (t := t) hx0
  rw [hv as] at hfv
  have hkk := hN as H locs cells slots lsA hE hR hS hL (oks_cons (hvo hok) (oks_tl hO)) hc hs
  rw [List.map_cons, cvR G as (by omega)]
  have hsm : ∀ z, s.fieldFound? (cT t k).1 (cT t k).2.1 (cT t k).2.2.1 = some z → s.fieldFound? (cN t) (cT t k).2.1 (cT t k).2.2.1 = some z := fun z hz => by rw [dclOK ht k hk] at hz; exact hz
  rcases hlk with q | q
  · exact va_get hx hb hts (wsIn ht) hown hK.1 hR.2.2.2.2.2.1 (a.toNat - 2) he (clA_at ht) k hk q hsm hfv hd hkk
  · exact va_getN hx hb hts (wsIn ht) hown hK.1 hR.2.2.2.2.2.1 (a.toNat - 2) he (clA_at ht) k hk q hsm hfv hd hkk
theorem g_putf (hx : p.tables.exec = Jvm.exec) (hb : c.code = cc) {own : String} (hown : s.vm.findClass own = some mm.cls) (hts : ∀ w ∈ WSg, w.before args s = true) {a0 a1 : Nat} (hK : KS G a0 a1 s) {i t k : Nat} {a : Int} {xs : List Int} {v : AV} (hd : decode cc pc = .ok (.putfield i, 3)) (ht : t ≤ 7) (hk : k < cF t)
    (hlk : ((Cond.fieldLink own i (cN t) (cT t k).2.1 (cT t k).2.2.1).before args s = true ∧ ((cT t k).2.2.2 = false ∨ (meth.name = "<init>" ∧ cN t = own))) ∨ ((Cond.fieldLinkNest own i (cN t) (cT t k).2.1 (cT t k).2.2.1 RX7).before args s = true ∧ (cT t k).2.2.2 = false)) (h0 : 0 ≤ a) (hc0 : h[a.toNat]? = some (t, xs)) (hkx : k < xs.length)
    (hv : okv (tgs h) v → ∀ as, hvx as (sty t k) v.2 = cvv G as v) (hvo : okv (tgs h) v → okx (tgs h) (sty t k) v.2) (hnf : ∀ as, narrow (cTy t k) (cvv G as v) = cvv G as v ∧ fits (cTy t k) (cvv G as v) = true) (hN : Gd G p l e R s mm args below meth c Q nL n0 t0 as0 (pc + 3) ls st (h.set a.toNat (t, xs.set k v.2))) : Gd G p l e R s mm args below meth c Q nL n0 t0 as0 pc ls (v :: (100 + t, a) :: st) h := by
  intro as H locs cells slots lsA hE hR hS hL hO hc hs
  have h2 := hR.at2 hc0 (by omega)
  have he := wd_get (G := G) (as := as) h2 hc0
  rw [enc_o ht] at he
  have hoc := hR.2.2.2.2.1 _ _ h2 hc0
  have htg := tgs_set (ys := xs.set k v.2) hc0
  have hoc' : okc (tgs h) (t, xs.set k v.2) := by
    refine ⟨?_, fun j x hj => ?_⟩
    · rcases hoc.1 with ⟨q1, q2⟩ | q
      · exact Or.inl ⟨q1, by rw [List.length_set]; exact q2⟩
      · exact Or.inr q
    · have hj : (xs.set k v.2)[j]? = some x := hj
      rw [List.getElem?_set] at hj
      by_cases e1 : k = j
      · subst e1
        rw [if_pos rfl, if_pos hkx] at hj
        cases hj
        exact hvo (oks_hd hO)
      · rw [if_neg e1] at hj; exact hoc.2 j x hj
  have hkk : ∀ (H1 : Heap) (locs1 : List Loc), va_P (gD G) clA ((wd G as h).set (a.toNat - 2) (as.getD a.toNat 0, .inr (t, (encF as t xs).set k (cvv G as v)))) H1 → va_D (gA G) ((wd G as h).set (a.toNat - 2) (as.getD a.toNat 0, .inr (t, (encF as t xs).set k (cvv G as v)))) → va_S (gA G) s.heap H1 locs1 → W p l e R s mm args below meth c H1 locs1 cells slots Q (F0 mm (pc + 3) lsA (st.map (cvv G as))) := by
    intro H1 locs1 hP1 hD1 hS1
    rw [← hv (oks_hd hO) as, ← encF_set hkx, ← enc_o ht] at hP1 hD1
    refine hN as H1 locs1 cells slots lsA hE (hR.set h2 hc0 hoc' hP1 hD1) hS1 (by rw [htg]; exact hL) (by rw [htg]; exact oks_tl (oks_tl hO)) (by rw [List.length_set]; exact hc) (by rw [tot_set hc0 (by rw [List.length_set])]; exact hs)
  rw [List.map_cons, List.map_cons, cvR G as (show 100 ≤ 100 + t by omega)]
  have hsm : ∀ z, s.fieldFound? (cT t k).1 (cT t k).2.1 (cT t k).2.2.1 = some z → s.fieldFound? (cN t) (cT t k).2.1 (cT t k).2.2.1 = some z := fun z hz => by rw [dclOK ht k hk] at hz; exact hz
  have hfl : k < (encF as t xs).length := by unfold encF; rw [List.length_map, List.length_range]; exact hkx
  rcases hlk with ⟨q, qf⟩ | ⟨q, qf⟩
  · cases hfb : (cT t k).2.2.2 with
    | false => exact va_put hx hb hts (wsIn ht) (cTy t) (tyOK ht) (nmOK ht) hown hK.1 hR.2.2.2.2.2.1 hR.2.2.2.2.2.2 hS (a.toNat - 2) he (clA_at ht) k hk q hsm hfb (tyOK ht k hk) (hnf as).1 (hnf as).2 hfl hd hkk
    | true =>
      rcases qf with z | ⟨z1, z2⟩
      · rw [hfb] at z; cases z
      · exact va_putF hx hb hts (wsIn ht) (cTy t) (tyOK ht) (nmOK ht) hown hK.1 hR.2.2.2.2.2.1 hR.2.2.2.2.2.2 hS (a.toNat - 2) he (clA_at ht) k hk q hsm hfb z1 ((dclOK ht k hk).trans z2) (tyOK ht k hk) (hnf as).1 (hnf as).2 hfl hd hkk
  · exact va_putN hx hb hts (wsIn ht) (cTy t) (tyOK ht) (nmOK ht) hown hK.1 hR.2.2.2.2.2.1 hR.2.2.2.2.2.2 hS (a.toNat - 2) he (clA_at ht) k hk q hsm qf (tyOK ht k hk) (hnf as).1 (hnf as).2 hfl hd hkk
theorem g_getst (hx : p.tables.exec = Jvm.exec) (hb : c.code = cc) {own : String} (hown : s.vm.findClass own = some mm.cls) {a0 : Nat} (hK : KS G a0 (as0.getD 1 0) s) (hl0 : 2 ≤ as0.length) {i : Nat} (hd : decode cc pc = .ok (.getstatic i, 3)) (hlk : (Cond.fieldLink own i "SownSeeds$Kind" "OVER" "[I").before args s = true)
    (hN : Gd G p l e R s mm args below meth c Q nL n0 t0 as0 (pc + 3) ls ((126, 1) :: st) h) : Gd G p l e R s mm args below meth c Q nL n0 t0 as0 pc ls st h := by
  intro as H locs cells slots lsA hE hR hS hL hO hc hs
  have hok : okv (tgs h) (126, 1) := Or.inr (Or.inr (Or.inr ⟨show 100 ≤ 126 by omega, show (0 : Int) ≤ 1 by omega, at_tg hR.2.2.2.1⟩))
  have hkk := hN as H locs cells slots lsA hE hR hS hL (oks_cons hok hO) hc hs
  rw [List.map_cons, cvR G as (by omega)] at hkk
  obtain ⟨ex, rfl⟩ := hE
  have : adr (as0 ++ ex) 1 = as0.getD 1 0 := adr_ext ex (show 1 < as0.length by omega)
  rw [this] at hkk
  exact va_gets hx hb hK.2.2.2.1 hS hown hlk (fun z hz => hz) hd hkk
/-- an int[] that is only read -/
theorem g_ro (hx : p.tables.exec = Jvm.exec) (hb : c.code = cc) {N : Nat} {f : Nat → Int} {ad : Nat} (hT : va_T .int ad N (fun j => .int (Int32.ofInt (f j))) (gA G) s s.heap) {H : Heap} {locs : List Loc} {cells slots : Nat} {lsA : Array Slot} {rest : List Value} (hS : va_S (gA G) s.heap H locs) {i : Int} (hiI : inI i) (hi : 0 ≤ i) (hn : i.toNat < N) (hd : decode cc pc = .ok (.iaload, 1))
    (kk : W p l e R s mm args below meth c H locs cells slots Q (F0 mm (pc + 1) lsA (.int (Int32.ofInt (f i.toNat)) :: rest))) : W p l e R s mm args below meth c H locs cells slots Q (F0 mm pc lsA (.int (Int32.ofInt i) :: .ref ad :: rest)) := by
  obtain ⟨cell, h1, h2, h3, h4, h5, h6, h7⟩ := hT
  refine W.iald (v := .int (Int32.ofInt (f i.toNat))) hx hb (by rw [hS.2.1 ad (Array.getElem?_eq_some_iff.mp h1).1 h7]; exact h1) h2 h3 ?_ ?_ rfl rfl hd kk
  · rw [ngI hiI, clI hiI]; omega
  · rw [clI hiI]; exact h6 _ hn
theorem g_iald (hx : p.tables.exec = Jvm.exec) (hb : c.code = cc) {a0 a1 : Nat} (hK : KS G a0 a1 s) {a i x : Int} {xs : List Int} (hd : decode cc pc = .ok (.iaload, 1)) (h0 : 0 ≤ a) (hc0 : h[a.toNat]? = some (20, xs)) (hi : 0 ≤ i) (hx0 : xs[i.toNat]? = some x) (hN : Gd G p l e R s mm args below meth c Q nL n0 t0 as0 (pc + 1) ls ((0, x) :: st) h) : Gd G p l e R s mm args below meth c Q nL n0 t0 as0 pc ls ((0, i) :: (120, a) :: st) h := by
  intro as H locs cells slots lsA hE hR hS hL hO hc hs
  have h2 := hR.at2 hc0 (by omega)
  have he : (wd G as h)[a.toNat - 2]? = some (as.getD a.toNat 0, .inl (gC G 20, xs.length, .inl (fun j => Int32.ofInt (xs.getD j 0)))) := wd_get (G := G) (as := as) h2 hc0
  have hok := (hR.2.2.2.2.1 _ _ h2 hc0).2 _ x hx0
  have hiI := ok0 (oks_hd hO)
  have hkk := hN as H locs cells slots lsA hE hR hS hL (oks_cons (ok0I (hok.1 rfl)) (oks_tl (oks_tl hO))) hc hs
  rw [List.map_cons, List.map_cons, cvR G as (show 100 ≤ 120 by omega), cv0]
  refine va_iald hx hb hK.1 hR.2.2.2.2.2.1 (a.toNat - 2) 0 he rfl (vin hiI hi (List.getElem?_eq_some_iff.mp hx0).1) hd ?_
  rw [clI hiI, gdE xs, hx0]; exact hkk
theorem g_zald (hx : p.tables.exec = Jvm.exec) (hb : c.code = cc) {a0 a1 : Nat} (hK : KS G a0 a1 s) {a i x : Int} {xs : List Int} (hd : decode cc pc = .ok (.baload, 1)) (h0 : 0 ≤ a) (hc0 : h[a.toNat]? = some (21, xs)) (hi : 0 ≤ i) (hx0 : xs[i.toNat]? = some x) (hN : Gd G p l e R s mm args below meth c Q nL n0 t0 as0 (pc + 1) ls ((0, x) :: st) h) : Gd G p l e R s mm args below meth c Q nL n0 t0 as0 pc ls ((0, i) :: (121, a) :: st) h := by
  intro as H locs cells slots lsA hE hR hS hL hO hc hs
  have h2 := hR.at2 hc0 (by omega)
  have he : (wd G as h)[a.toNat - 2]? = some (as.getD a.toNat 0, .inl (gC G 21, xs.length, .inl (fun j => Int32.ofInt (xs.getD j 0)))) := wd_get (G := G) (as := as) h2 hc0
  have hok := (hR.2.2.2.2.1 _ _ h2 hc0).2 _ x hx0
  have hiI := ok0 (oks_hd hO)
  have hkk := hN as H locs cells slots lsA hE hR hS hL (oks_cons (ok0I (hok.1 rfl)) (oks_tl (oks_tl hO))) hc hs
  rw [List.map_cons, List.map_cons, cvR G as (show 100 ≤ 121 by omega), cv0]
  refine va_zald hx hb hK.1 hR.2.2.2.2.2.1 (a.toNat - 2) 1 he rfl (vin hiI hi (List.getElem?_eq_some_iff.mp hx0).1) hd ?_
  rw [clI hiI, gdE xs, hx0]; exact hkk
theorem g_cald (hx : p.tables.exec = Jvm.exec) (hb : c.code = cc) {a0 a1 : Nat} (hK : KS G a0 a1 s) {a i x : Int} {xs : List Int} (hd : decode cc pc = .ok (.caload, 1)) (h0 : 0 ≤ a) (hc0 : h[a.toNat]? = some (22, xs)) (hi : 0 ≤ i) (hx0 : xs[i.toNat]? = some x) (hN : Gd G p l e R s mm args below meth c Q nL n0 t0 as0 (pc + 1) ls ((0, x) :: st) h) : Gd G p l e R s mm args below meth c Q nL n0 t0 as0 pc ls ((0, i) :: (122, a) :: st) h := by
  intro as H locs cells slots lsA hE hR hS hL hO hc hs
  have h2 := hR.at2 hc0 (by omega)
  have he : (wd G as h)[a.toNat - 2]? = some (as.getD a.toNat 0, .inl (gC G 22, xs.length, .inl (fun j => Int32.ofInt (xs.getD j 0)))) := wd_get (G := G) (as := as) h2 hc0
  have hok := (hR.2.2.2.2.1 _ _ h2 hc0).2 _ x hx0
  have hiI := ok0 (oks_hd hO)
  have hkk := hN as H locs cells slots lsA hE hR hS hL (oks_cons (ok0I (hok.1 rfl)) (oks_tl (oks_tl hO))) hc hs
  rw [List.map_cons, List.map_cons, cvR G as (show 100 ≤ 122 by omega), cv0]
  refine va_cald hx hb hK.1 hR.2.2.2.2.2.1 (a.toNat - 2) 2 he rfl (vin hiI hi (List.getElem?_eq_some_iff.mp hx0).1) hd ?_
  rw [clI hiI, gdE xs, hx0]; exact hkk
theorem g_lald (hx : p.tables.exec = Jvm.exec) (hb : c.code = cc) {a0 a1 : Nat} (hK : KS G a0 a1 s) {a i x : Int} {xs : List Int} (hd : decode cc pc = .ok (.laload, 1)) (h0 : 0 ≤ a) (hc0 : h[a.toNat]? = some (23, xs)) (hi : 0 ≤ i) (hx0 : xs[i.toNat]? = some x) (hN : Gd G p l e R s mm args below meth c Q nL n0 t0 as0 (pc + 1) ls ((2, x) :: st) h) : Gd G p l e R s mm args below meth c Q nL n0 t0 as0 pc ls ((0, i) :: (123, a) :: st) h := by
  intro as H locs cells slots lsA hE hR hS hL hO hc hs
  have h2 := hR.at2 hc0 (by omega)
  have he : (wd G as h)[a.toNat - 2]? = some (as.getD a.toNat 0, .inl (gC G 23, xs.length, .inr (.inl (fun j => Int64.ofInt (xs.getD j 0))))) := wd_get (G := G) (as := as) h2 hc0
  have hok := (hR.2.2.2.2.1 _ _ h2 hc0).2 _ x hx0
  have hiI := ok0 (oks_hd hO)
  have hkk := hN as H locs cells slots lsA hE hR hS hL (oks_cons (ok2L (hok.2.1 rfl)) (oks_tl (oks_tl hO))) hc hs
  rw [List.map_cons, List.map_cons, cvR G as (show 100 ≤ 123 by omega), cv0]
  refine va_lald hx hb hK.1 hR.2.2.2.2.2.1 (a.toNat - 2) 3 he rfl (vin hiI hi (List.getElem?_eq_some_iff.mp hx0).1) hd ?_
  rw [clI hiI, gdE xs, hx0]; exact hkk
theorem g_aald (hx : p.tables.exec = Jvm.exec) (hb : c.code = cc) {a0 a1 : Nat} (hK : KS G a0 a1 s) {t t0' : Nat} {C : String} (ht : (t = 24 ∧ t0' = 4 ∧ C = RX0) ∨ (t = 25 ∧ t0' = 5 ∧ C = RX1)) {a i x : Int} {xs : List Int} (hd : decode cc pc = .ok (.aaload, 1)) (h0 : 0 ≤ a) (hc0 : h[a.toNat]? = some (t, xs)) (hi : 0 ≤ i) (hx0 : xs[i.toNat]? = some x) (hx1 : 0 ≤ x) (hN : Gd G p l e R s mm args below meth c Q nL n0 t0 as0 (pc + 1) ls ((t + 76, x) :: st) h) : Gd G p l e R s mm args below meth c Q nL n0 t0 as0 pc ls ((0, i) :: (100 + t, a) :: st) h := by
  intro as H locs cells slots lsA hE hR hS hL hO hc hs
  have h2 := hR.at2 hc0 (by omega)
  have he : (wd G as h)[a.toNat - 2]? = some (as.getD a.toNat 0, .inl (gC G t, xs.length, .inr (.inr (.inr (.inr (fun j => hro as (xs.getD j (-1)))))))) := by
    have := wd_get (G := G) (as := as) h2 hc0
    rw [this]
    unfold enc
    rw [if_neg (show ¬ t = 23 by omega), if_pos (show 24 ≤ t by omega)]
  have hok := (hR.2.2.2.2.1 _ _ h2 hc0).2 _ x hx0
  have hst : sty t i.toNat = t + 76 := by
    unfold sty
    rcases ht with ⟨rfl, -⟩ | ⟨rfl, -⟩ <;> simp
  have hov : okv (tgs h) (t + 76, x) := by
    have := hok.2.2 (by show 100 ≤ sty t i.toNat; rw [hst]; omega) hx1
    refine Or.inr (Or.inr (Or.inr ⟨show 100 ≤ t + 76 by omega, hx1, ?_⟩))
    rw [this]; show some (sty t i.toNat - 100) = _; rw [hst]
  have hiI := ok0 (oks_hd hO)
  have hkk := hN as H locs cells slots lsA hE hR hS hL (oks_cons hov (oks_tl (oks_tl hO))) hc hs
  rw [List.map_cons, cvR G as (show 100 ≤ t + 76 by omega)] at hkk
  rw [List.map_cons, List.map_cons, cvR G as (show 100 ≤ 100 + t by omega), cv0]
  have htt : (tyA G)[t0']? = some (gC G t, .object C) := by rcases ht with ⟨rfl, rfl, rfl⟩ | ⟨rfl, rfl, rfl⟩ <;> rfl
  refine va_aldq hx hb hK.1 hR.2.2.2.2.2.1 (a.toNat - 2) t0' he htt (vin hiI hi (List.getElem?_eq_some_iff.mp hx0).1) hd ?_
  rw [clI hiI, gdE xs, hx0]
  show W _ _ _ _ _ _ _ _ _ _ _ _ _ _ _ (F0 mm (pc + 1) lsA (va_rf (hro as x) :: _))
  unfold hro
  rw [if_neg (by omega)]
  exact hkk
theorem g_alen (hx : p.tables.exec = Jvm.exec) (hb : c.code = cc) (hK : KS G (as0.getD 0 0) (as0.getD 1 0) s) (hl0 : 2 ≤ as0.length) {a : Int} {xs : List Int} (hd : decode cc pc = .ok (.arraylength, 1)) (h0 : 0 ≤ a) (hc0 : h[a.toNat]? = some (26, xs)) (hN : Gd G p l e R s mm args below meth c Q nL n0 t0 as0 (pc + 1) ls ((0, Int.ofNat xs.length) :: st) h) : Gd G p l e R s mm args below meth c Q nL n0 t0 as0 pc ls ((126, a) :: st) h := by
  intro as H locs cells slots lsA hE hR hS hL hO hc hs
  have key : (a.toNat = 0 ∧ xs = gS G) ∨ (a.toNat = 1 ∧ xs = ovr) := by
    obtain ⟨-, -, h3, h4, h5, -⟩ := hR
    rcases Nat.lt_or_ge a.toNat 2 with q | q
    · rcases (show a.toNat = 0 ∨ a.toNat = 1 by omega) with z | z
      · rw [z, h3] at hc0; cases hc0; exact Or.inl ⟨z, rfl⟩
      · rw [z, h4] at hc0; cases hc0; exact Or.inr ⟨z, rfl⟩
    · rcases (h5 _ _ q hc0).1 with z | z <;> omega
  have hlen : xs.length < 2 ^ 31 := by
    rcases key with ⟨-, rfl⟩ | ⟨-, rfl⟩
    · exact hK.2.2.2.2.2.2.2.2.2.2.2.2.1
    · decide
  have hkk := hN as H locs cells slots lsA hE hR hS hL (oks_cons (ok0I ⟨by show _ ≤ (xs.length : Int); omega, by show (xs.length : Int) < _; omega⟩) (oks_tl hO)) hc hs
  rw [List.map_cons, cvR G as (show 100 ≤ 126 by omega)]
  obtain ⟨ex, rfl⟩ := hE
  have hT : va_T .int (adr (as0 ++ ex) a) xs.length (fun j => .int (Int32.ofInt (xs.getD j 0))) (gA G) s s.heap := by
    rcases key with ⟨z, rfl⟩ | ⟨z, rfl⟩
    · rw [adr_ext ex (by omega)]; unfold adr; rw [z]; exact hK.2.1
    · rw [adr_ext ex (by omega)]; unfold adr; rw [z]; exact hK.2.2.1
  obtain ⟨cell, h1, h2, h3, h4, h5, h6, h7⟩ := hT
  exact W.alen (n := Int32.ofNat xs.length) hx hb (by rw [hS.2.1 _ (Array.getElem?_eq_some_iff.mp h1).1 h7]; exact h1) h2 h5 rfl rfl hd hkk
theorem g_ialdR (hx : p.tables.exec = Jvm.exec) (hb : c.code = cc) (hK : KS G (as0.getD 0 0) (as0.getD 1 0) s) (hl0 : 2 ≤ as0.length) {a i x : Int} {xs : List Int} (hd : decode cc pc = .ok (.iaload, 1)) (h0 : 0 ≤ a) (hc0 : h[a.toNat]? = some (26, xs)) (hi : 0 ≤ i) (hx0 : xs[i.toNat]? = some x) (hN : Gd G p l e R s mm args below meth c Q nL n0 t0 as0 (pc + 1) ls ((0, x) :: st) h) : Gd G p l e R s mm args below meth c Q nL n0 t0 as0 pc ls ((0, i) :: (126, a) :: st) h := by
  intro as H locs cells slots lsA hE hR hS hL hO hc hs
  have key : (a.toNat = 0 ∧ xs = gS G) ∨ (a.toNat = 1 ∧ xs = ovr) := by
    obtain ⟨-, -, h3, h4, h5, -⟩ := hR
    rcases Nat.lt_or_ge a.toNat 2 with q | q
    · rcases (show a.toNat = 0 ∨ a.toNat = 1 by omega) with z | z
      · rw [z, h3] at hc0; cases hc0; exact Or.inl ⟨z, rfl⟩
      · rw [z, h4] at hc0; cases hc0; exact Or.inr ⟨z, rfl⟩
    · rcases (h5 _ _ q hc0).1 with z | z <;> omega
  have hxI : inI x := by
    have hm := List.mem_of_getElem? hx0
    rcases key with ⟨-, rfl⟩ | ⟨-, rfl⟩
    · exact hK.2.2.2.2.2.2.2.2.2.2.2.2.2.1 x hm
    · simp only [ovr, List.mem_cons, List.not_mem_nil, or_false] at hm
      rcases hm with rfl | rfl | rfl | rfl | rfl <;> exact ⟨by omega, by omega⟩
  have hiI := ok0 (oks_hd hO)
  have hkk := hN as H locs cells slots lsA hE hR hS hL (oks_cons (ok0I hxI) (oks_tl (oks_tl hO))) hc hs
  rw [List.map_cons, List.map_cons, cvR G as (show 100 ≤ 126 by omega), cv0]
  obtain ⟨ex, rfl⟩ := hE
  have hT : va_T .int (adr (as0 ++ ex) a) xs.length (fun j => .int (Int32.ofInt (xs.getD j 0))) (gA G) s s.heap := by
    rcases key with ⟨z, rfl⟩ | ⟨z, rfl⟩
    · rw [adr_ext ex (by omega)]; unfold adr; rw [z]; exact hK.2.1
    · rw [adr_ext ex (by omega)]; unfold adr; rw [z]; exact hK.2.2.1
  refine g_ro hx hb hT hS hiI hi (List.getElem?_eq_some_iff.mp hx0).1 hd ?_
  rw [gdE xs, hx0]; exact hkk
end HEAP
