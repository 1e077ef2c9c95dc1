/-! A step of the abstract machine is a step of the machine: stores, new cells, the JDK's own. -/
section STORE
variable {p : Program} {l : Launch} {e : Env} {R : Room} {s : State} {mm : MethodId} {args : Array Value} {below : List Frame} {meth : Method} {c : Code} {Q : State → Prop}
variable {G : AG} {nL n0 t0 pc : Nat} {as0 : List Nat} {ls st : List AV} {h : AH} {cc : ByteArray}
theorem okc_set {tg : List Nat} {t k : Nat} {xs : List Int} {x : Int} (ho : okc tg (t, xs)) (hx : okx tg (sty t k) x) (hk : k < xs.length) : okc tg (t, xs.set k x) := by
  refine ⟨?_, fun j y hj => ?_⟩
  · rcases ho.1 with ⟨q1, q2⟩ | q
    · exact Or.inl ⟨q1, by rw [List.length_set]; exact q2⟩
    · exact Or.inr q
  · have hj : (xs.set k x)[j]? = some y := hj
    rw [List.getElem?_set] at hj
    by_cases e1 : k = j
    · subst e1
      rw [if_pos rfl, if_pos hk] at hj
      cases hj
      exact hx
    · rw [if_neg e1] at hj; exact ho.2 j y hj
theorem getD_set {xs : List Int} {n j : Nat} {v d : Int} (hn : n < xs.length) : (xs.set n v).getD j d = if j = n then v else xs.getD j d := by
  rw [gdE (xs.set n v), List.getElem?_set]
  by_cases q : n = j
  · subst q; rw [if_pos rfl, if_pos rfl, if_pos hn]; rfl
  · rw [if_neg q, if_neg (fun z => q z.symm), ← gdE]
theorem updE {xs : List Int} {n : Nat} {v : Int} (hn : n < xs.length) : (fun j => Int32.ofInt ((xs.set n v).getD j 0)) = upd (fun j => Int32.ofInt (xs.getD j 0)) n (Int32.ofInt v) := by
  funext j
  rw [getD_set hn]
  unfold upd
  by_cases q : j = n
  · rw [if_pos q, if_pos q]
  · rw [if_neg q, if_neg q]
theorem updL {xs : List Int} {n : Nat} {v : Int} (hn : n < xs.length) : (fun j => Int64.ofInt ((xs.set n v).getD j 0)) = vp_updL (fun j => Int64.ofInt (xs.getD j 0)) n (Int64.ofInt v) := by
  funext j
  rw [getD_set hn]
  unfold vp_updL
  by_cases q : j = n
  · rw [if_pos q, if_pos q]
  · rw [if_neg q, if_neg q]
theorem updR {as : List Nat} {xs : List Int} {n : Nat} {v : Int} (hn : n < xs.length) (hv : 0 ≤ v) : (fun j => hro as ((xs.set n v).getD j (-1))) = va_up (fun j => hro as (xs.getD j (-1))) n (some (adr as v)) := by
  funext j
  rw [getD_set hn]
  unfold va_up
  by_cases q : j = n
  · rw [if_pos q, if_pos q]; unfold hro; rw [if_neg (by omega)]
  · rw [if_neg q, if_neg q]
/-- behind a store -/
theorem g_put {t k : Nat} {xs : List Int} {x : Int} {a : Int} {st' : List AV} {pc' : Nat} (hN : Gd G p l e R s mm args below meth c Q nL n0 t0 as0 pc' ls st' (h.set a.toNat (t, xs.set k x))) (hc0 : h[a.toNat]? = some (t, xs)) (hk : k < xs.length) (ht : t ≠ 26)
    {as : List Nat} {H : Heap} {cells slots : Nat} {lsA : Array Slot} (hE : ∃ ex, as = as0 ++ ex) (hR : RelP G as h H) (hL : LsR G as (tgs h) ls lsA nL) (hO : ∀ v ∈ st', okv (tgs h) v) (hc : cells + n0 = h.length) (hs : slots + t0 = tot h) (hx : okx (tgs h) (sty t k) x)
    (H1 : Heap) (locs1 : List Loc) (hP1 : va_P (gD G) clA ((wd G as h).set (a.toNat - 2) (as.getD a.toNat 0, enc G as (t, xs.set k x))) H1) (hD1 : va_D (gA G) ((wd G as h).set (a.toNat - 2) (as.getD a.toNat 0, enc G as (t, xs.set k x)))) (hS1 : va_S (gA G) s.heap H1 locs1) : W p l e R s mm args below meth c H1 locs1 cells slots Q (F0 mm pc' lsA (st'.map (cvv G as))) := by
  have h2 := hR.at2 hc0 ht
  have htg := tgs_set (ys := xs.set k x) hc0
  exact hN as H1 locs1 cells slots lsA hE (hR.set h2 hc0 (okc_set (hR.2.2.2.2.1 _ _ h2 hc0) hx hk) hP1 hD1) hS1 (by rw [htg]; exact hL) (by rw [htg]; exact hO) (by rw [List.length_set]; exact hc) (by rw [tot_set hc0 (by rw [List.length_set])]; exact hs)
theorem g_iast (hx : p.tables.exec = Jvm.exec) (hb : c.code = cc) {a0 a1 : Nat} (hK : KS G a0 a1 s) {a i x : Int} {xs : List Int} (hd : decode cc pc = .ok (.iastore, 1)) (h0 : 0 ≤ a) (hc0 : h[a.toNat]? = some (20, xs)) (hi : 0 ≤ i) (hil : i.toNat < xs.length) (hN : Gd G p l e R s mm args below meth c Q nL n0 t0 as0 (pc + 1) ls st (h.set a.toNat (20, xs.set i.toNat x))) : Gd G p l e R s mm args below meth c Q nL n0 t0 as0 pc ls ((0, x) :: (0, i) :: (120, a) :: st) h := by
  intro as H locs cells slots lsA hE hR hS hL hO hc hs
  have h2 := hR.at2 hc0 (by omega)
  have he : (wd G as h)[a.toNat - 2]? = some (as.getD a.toNat 0, .inl (gC G 20, xs.length, .inl (fun j => Int32.ofInt (xs.getD j 0)))) := wd_get (G := G) (as := as) h2 hc0
  have hiI := ok0 (oks_hd (oks_tl hO))
  rw [List.map_cons, List.map_cons, List.map_cons, cvR G as (show 100 ≤ 120 by omega), cv0, cv0]
  refine va_iast hx hb hK.1 hR.2.2.2.2.2.1 hR.2.2.2.2.2.2 hS (a.toNat - 2) 0 he rfl (vin hiI hi hil) hd (fun H1 locs1 hP1 hD1 hS1 => ?_)
  refine g_put hN hc0 hil (by omega) hE hR hL (oks_tl (oks_tl (oks_tl hO))) hc hs (⟨fun _ => ok0 (oks_hd hO), fun q => absurd q (show ¬ _ by simp [sty]), fun q => absurd q (show ¬ _ by simp [sty])⟩) H1 locs1 ?_ ?_ hS1
  · have hq : enc G as (20, xs.set i.toNat x) = .inl (gC G 20, xs.length, .inl (upd (fun j => Int32.ofInt (xs.getD j 0)) i.toNat (Int32.ofInt x))) := by
      show (Sum.inl (gC G 20, (xs.set i.toNat x).length, .inl (fun j => Int32.ofInt ((xs.set i.toNat x).getD j 0))) : va_E) = _
      rw [List.length_set, updE hil]
    rw [hq, ← clI hiI]; exact hP1
  · have hq : enc G as (20, xs.set i.toNat x) = .inl (gC G 20, xs.length, .inl (upd (fun j => Int32.ofInt (xs.getD j 0)) i.toNat (Int32.ofInt x))) := by
      show (Sum.inl (gC G 20, (xs.set i.toNat x).length, .inl (fun j => Int32.ofInt ((xs.set i.toNat x).getD j 0))) : va_E) = _
      rw [List.length_set, updE hil]
    rw [hq, ← clI hiI]; exact hD1
theorem g_zast (hx : p.tables.exec = Jvm.exec) (hb : c.code = cc) {a0 a1 : Nat} (hK : KS G a0 a1 s) {a i x : Int} {xs : List Int} (hd : decode cc pc = .ok (.bastore, 1)) (h0 : 0 ≤ a) (hc0 : h[a.toNat]? = some (21, xs)) (hi : 0 ≤ i) (hil : i.toNat < xs.length) (hv : x = 0 ∨ x = 1) (hN : Gd G p l e R s mm args below meth c Q nL n0 t0 as0 (pc + 1) ls st (h.set a.toNat (21, xs.set i.toNat x))) : Gd G p l e R s mm args below meth c Q nL n0 t0 as0 pc ls ((0, x) :: (0, i) :: (121, a) :: st) h := by
  intro as H locs cells slots lsA hE hR hS hL hO hc hs
  have h2 := hR.at2 hc0 (by omega)
  have he : (wd G as h)[a.toNat - 2]? = some (as.getD a.toNat 0, .inl (gC G 21, xs.length, .inl (fun j => Int32.ofInt (xs.getD j 0)))) := wd_get (G := G) (as := as) h2 hc0
  have hiI := ok0 (oks_hd (oks_tl hO))
  rw [List.map_cons, List.map_cons, List.map_cons, cvR G as (show 100 ≤ 121 by omega), cv0, cv0]
  refine va_zast hx hb hK.1 hR.2.2.2.2.2.1 hR.2.2.2.2.2.2 hS (a.toNat - 2) 1 he rfl (vin hiI hi hil) hd (fun H1 locs1 hP1 hD1 hS1 => ?_)
  refine g_put hN hc0 hil (by omega) hE hR hL (oks_tl (oks_tl (oks_tl hO))) hc hs (⟨fun _ => ok0 (oks_hd hO), fun q => absurd q (show ¬ _ by simp [sty]), fun q => absurd q (show ¬ _ by simp [sty])⟩) H1 locs1 ?_ ?_ hS1
  · have hq : enc G as (21, xs.set i.toNat x) = .inl (gC G 21, xs.length, .inl (upd (fun j => Int32.ofInt (xs.getD j 0)) i.toNat (vp_nar .boolean (Int32.ofInt x)))) := by
      show (Sum.inl (gC G 21, (xs.set i.toNat x).length, .inl (fun j => Int32.ofInt ((xs.set i.toNat x).getD j 0))) : va_E) = _
      rw [List.length_set, updE hil]
      rw [show vp_nar .boolean (Int32.ofInt x) = Int32.ofInt x by rcases hv with rfl | rfl <;> rfl]
    rw [hq, ← clI hiI]; exact hP1
  · have hq : enc G as (21, xs.set i.toNat x) = .inl (gC G 21, xs.length, .inl (upd (fun j => Int32.ofInt (xs.getD j 0)) i.toNat (vp_nar .boolean (Int32.ofInt x)))) := by
      show (Sum.inl (gC G 21, (xs.set i.toNat x).length, .inl (fun j => Int32.ofInt ((xs.set i.toNat x).getD j 0))) : va_E) = _
      rw [List.length_set, updE hil]
      rw [show vp_nar .boolean (Int32.ofInt x) = Int32.ofInt x by rcases hv with rfl | rfl <;> rfl]
    rw [hq, ← clI hiI]; exact hD1
theorem nar_c {x : Int} (hv : 0 ≤ x ∧ x < 65536) : vp_nar .char (Int32.ofInt x) = Int32.ofInt x := by
  obtain ⟨n, rfl⟩ : ∃ n : Nat, x = (n : Int) := ⟨x.toNat, by omega⟩
  have h := (pk_charN (q := n) (by omega)).1
  have hq : Int32.ofInt (n : Int) = nI n := rfl
  rw [hq]
  unfold vp_nar
  rw [h]
theorem g_cast (hx : p.tables.exec = Jvm.exec) (hb : c.code = cc) {a0 a1 : Nat} (hK : KS G a0 a1 s) {a i x : Int} {xs : List Int} (hd : decode cc pc = .ok (.castore, 1)) (h0 : 0 ≤ a) (hc0 : h[a.toNat]? = some (22, xs)) (hi : 0 ≤ i) (hil : i.toNat < xs.length) (hv : 0 ≤ x ∧ x < 65536) (hN : Gd G p l e R s mm args below meth c Q nL n0 t0 as0 (pc + 1) ls st (h.set a.toNat (22, xs.set i.toNat x))) : Gd G p l e R s mm args below meth c Q nL n0 t0 as0 pc ls ((0, x) :: (0, i) :: (122, a) :: st) h := by
  intro as H locs cells slots lsA hE hR hS hL hO hc hs
  have h2 := hR.at2 hc0 (by omega)
  have he : (wd G as h)[a.toNat - 2]? = some (as.getD a.toNat 0, .inl (gC G 22, xs.length, .inl (fun j => Int32.ofInt (xs.getD j 0)))) := wd_get (G := G) (as := as) h2 hc0
  have hiI := ok0 (oks_hd (oks_tl hO))
  rw [List.map_cons, List.map_cons, List.map_cons, cvR G as (show 100 ≤ 122 by omega), cv0, cv0]
  refine va_cast hx hb hK.1 hR.2.2.2.2.2.1 hR.2.2.2.2.2.2 hS (a.toNat - 2) 2 he rfl (vin hiI hi hil) hd (fun H1 locs1 hP1 hD1 hS1 => ?_)
  refine g_put hN hc0 hil (by omega) hE hR hL (oks_tl (oks_tl (oks_tl hO))) hc hs (⟨fun _ => ok0 (oks_hd hO), fun q => absurd q (show ¬ _ by simp [sty]), fun q => absurd q (show ¬ _ by simp [sty])⟩) H1 locs1 ?_ ?_ hS1
  · have hq : enc G as (22, xs.set i.toNat x) = .inl (gC G 22, xs.length, .inl (upd (fun j => Int32.ofInt (xs.getD j 0)) i.toNat (vp_nar .char (Int32.ofInt x)))) := by
      show (Sum.inl (gC G 22, (xs.set i.toNat x).length, .inl (fun j => Int32.ofInt ((xs.set i.toNat x).getD j 0))) : va_E) = _
      rw [List.length_set, updE hil]
      rw [nar_c hv]
    rw [hq, ← clI hiI]; exact hP1
  · have hq : enc G as (22, xs.set i.toNat x) = .inl (gC G 22, xs.length, .inl (upd (fun j => Int32.ofInt (xs.getD j 0)) i.toNat (vp_nar .char (Int32.ofInt x)))) := by
      show (Sum.inl (gC G 22, (xs.set i.toNat x).length, .inl (fun j => Int32.ofInt ((xs.set i.toNat x).getD j 0))) : va_E) = _
      rw [List.length_set, updE hil]
      rw [nar_c hv]
    rw [hq, ← clI hiI]; exact hD1
theorem g_last (hx : p.tables.exec = Jvm.exec) (hb : c.code = cc) {a0 a1 : Nat} (hK : KS G a0 a1 s) {a i x : Int} {xs : List Int} (hd : decode cc pc = .ok (.lastore, 1)) (h0 : 0 ≤ a) (hc0 : h[a.toNat]? = some (23, xs)) (hi : 0 ≤ i) (hil : i.toNat < xs.length) (hN : Gd G p l e R s mm args below meth c Q nL n0 t0 as0 (pc + 1) ls st (h.set a.toNat (23, xs.set i.toNat x))) : Gd G p l e R s mm args below meth c Q nL n0 t0 as0 pc ls ((2, x) :: (0, i) :: (123, a) :: st) h := by
  intro as H locs cells slots lsA hE hR hS hL hO hc hs
  have h2 := hR.at2 hc0 (by omega)
  have he : (wd G as h)[a.toNat - 2]? = some (as.getD a.toNat 0, .inl (gC G 23, xs.length, .inr (.inl (fun j => Int64.ofInt (xs.getD j 0))))) := wd_get (G := G) (as := as) h2 hc0
  have hiI := ok0 (oks_hd (oks_tl hO))
  rw [List.map_cons, List.map_cons, List.map_cons, cvR G as (show 100 ≤ 123 by omega), cv2, cv0]
  refine va_last hx hb hK.1 hR.2.2.2.2.2.1 hR.2.2.2.2.2.2 hS (a.toNat - 2) 3 he rfl (vin hiI hi hil) hd (fun H1 locs1 hP1 hD1 hS1 => ?_)
  refine g_put hN hc0 hil (by omega) hE hR hL (oks_tl (oks_tl (oks_tl hO))) hc hs (⟨fun q => absurd q (show ¬ _ by simp [sty]), fun _ => ok2 (oks_hd hO), fun q => absurd q (show ¬ _ by simp [sty])⟩) H1 locs1 ?_ ?_ hS1
  · have hq : enc G as (23, xs.set i.toNat x) = .inl (gC G 23, xs.length, .inr (.inl (vp_updL (fun j => Int64.ofInt (xs.getD j 0)) i.toNat (Int64.ofInt x)))) := by
      show (Sum.inl (gC G 23, (xs.set i.toNat x).length, .inr (.inl (fun j => Int64.ofInt ((xs.set i.toNat x).getD j 0)))) : va_E) = _
      rw [List.length_set, updL hil]
    rw [hq, ← clI hiI]; exact hP1
  · have hq : enc G as (23, xs.set i.toNat x) = .inl (gC G 23, xs.length, .inr (.inl (vp_updL (fun j => Int64.ofInt (xs.getD j 0)) i.toNat (Int64.ofInt x)))) := by
      show (Sum.inl (gC G 23, (xs.set i.toNat x).length, .inr (.inl (fun j => Int64.ofInt ((xs.set i.toNat x).getD j 0)))) : va_E) = _
      rw [List.length_set, updL hil]
    rw [hq, ← clI hiI]; exact hD1
theorem g_aast (hx : p.tables.exec = Jvm.exec) (hb : c.code = cc) {a0 a1 : Nat} (hK : KS G a0 a1 s) {t t0' : Nat} (ht : (t = 24 ∧ t0' = 4) ∨ (t = 25 ∧ t0' = 5)) {a i x : Int} {xs : List Int} (hd : decode cc pc = .ok (.aastore, 1)) (h0 : 0 ≤ a) (hc0 : h[a.toNat]? = some (t, xs)) (hi : 0 ≤ i) (hil : i.toNat < xs.length) (hN : Gd G p l e R s mm args below meth c Q nL n0 t0 as0 (pc + 1) ls st (h.set a.toNat (t, xs.set i.toNat x))) : Gd G p l e R s mm args below meth c Q nL n0 t0 as0 pc ls ((t + 76, x) :: (0, i) :: (100 + t, a) :: st) h := by
  intro as H locs cells slots lsA hE hR hS hL hO hc hs
  have h2 := hR.at2 hc0 (by omega)
  have henc : ∀ ys : List Int, enc G as (t, ys) = .inl (gC G t, ys.length, .inr (.inr (.inr (.inr (fun j => hro as (ys.getD j (-1))))))) := by
    intro ys
    unfold enc
    rw [if_neg (show ¬ t = 23 by omega), if_pos (show 24 ≤ t by omega)]
  have he := wd_get (G := G) (as := as) h2 hc0
  rw [henc] at he
  have hiI := ok0 (oks_hd (oks_tl hO))
  obtain ⟨hx0, hxt⟩ := okR (show 100 ≤ t + 76 by omega) (oks_hd hO)
  have hst : ∀ k, sty t k = t + 76 := by
    intro k
    unfold sty
    rcases ht with ⟨rfl, -⟩ | ⟨rfl, -⟩ <;> simp
  obtain ⟨vs, hvs⟩ := tg_at hxt
  have hv2 := hR.at2 hvs (by omega)
  have hve := wd_get (G := G) (as := as) hv2 hvs
  rw [enc_o (show t + 76 - 100 ≤ 7 by omega)] at hve
  rw [List.map_cons, List.map_cons, List.map_cons, cvR G as (show 100 ≤ 100 + t by omega), cvR G as (show 100 ≤ t + 76 by omega), cv0]
  have htt : (tyA G)[t0']? = some (gC G t, .object (cN (t + 76 - 100), cT (t + 76 - 100), cF (t + 76 - 100)).1) := by rcases ht with ⟨rfl, rfl⟩ | ⟨rfl, rfl⟩ <;> rfl
  refine va_astq hx hb hK.1 hR.2.2.2.2.2.1 hR.2.2.2.2.2.2 hS (a.toNat - 2) t0' (x.toNat - 2) (t + 76 - 100) he htt hve (clA_at (by omega)) (vin hiI hi hil) hd (fun H1 locs1 hP1 hD1 hS1 => ?_)
  rw [clI hiI, show as.getD x.toNat 0 = adr as x from rfl, ← updR hil hx0] at hP1 hD1
  refine g_put hN hc0 hil (by omega) hE hR hL (oks_tl (oks_tl (oks_tl hO))) hc hs ⟨fun q => absurd q (by rw [hst]; omega), fun q => absurd q (by rw [hst]; omega), fun _ _ => by rw [hst]; exact hxt⟩ H1 locs1 ?_ ?_ hS1
  · rw [henc, List.length_set]; exact hP1
  · rw [henc, List.length_set]; exact hD1
/-- behind a new cell -/
theorem g_mk {t : Nat} {xs : List Int} {st' : List AV} {pc' : Nat} {as : List Nat} {H : Heap} (hN : Gd G p l e R s mm args below meth c Q nL n0 t0 as0 pc' ls ((100 + t, Int.ofNat h.length) :: st') (h ++ [(t, xs)]))
    {locs : List Loc} {cells slots N : Nat} {lsA : Array Slot} (hE : ∃ ex, as = as0 ++ ex) (hR : RelP G as h H) (hL : LsR G as (tgs h) ls lsA nL) (hO : ∀ v ∈ st', okv (tgs h) v) (hc : cells + n0 = h.length) (hs : slots + t0 = tot h) (hNl : xs.length = N) (ho : okc (tgs h ++ [t]) (t, xs))
    (q : Nat) (H1 : Heap) (hP1 : va_P (gD G) clA (wd G as h ++ [(q, enc G (as ++ [q]) (t, xs))]) H1) (hD1 : va_D (gA G) (wd G as h ++ [(q, enc G (as ++ [q]) (t, xs))])) (hS1 : va_S (gA G) s.heap H1 locs) : W p l e R s mm args below meth c H1 locs (cells + 1) (slots + N) Q (F0 mm pc' lsA (.ref q :: st'.map (cvv G as))) := by
  have ht : tgs (h ++ [(t, xs)]) = tgs h ++ [t] := by simp [tgs]
  have hpr := hR.push (c := (t, xs)) ho hP1 hD1
  have hlen := hR.1
  have hov : okv (tgs h ++ [t]) (100 + t, Int.ofNat h.length) := by
    refine Or.inr (Or.inr (Or.inr ⟨show 100 ≤ 100 + t by omega, Int.natCast_nonneg _, ?_⟩))
    show (tgs h ++ [t])[h.length]? = some (100 + t - 100)
    rw [List.getElem?_append_right (by simp [tgs])]
    simp [tgs]
  have hk := hN (as ++ [q]) H1 locs (cells + 1) (slots + N) lsA (by obtain ⟨ex, rfl⟩ := hE; exact ⟨ex ++ [q], by rw [List.append_assoc]⟩) hpr hS1 (by rw [ht]; exact hL.ext [q] hlen [t]) (by rw [ht]; exact oks_cons hov (fun v hv => okv_ext [t] (hO v hv))) (by rw [List.length_append]; simp; omega) (by rw [tot_push]; show slots + N + t0 = tot h + xs.length; omega)
  have hm : st'.map (cvv G (as ++ [q])) = st'.map (cvv G as) := List.map_congr_left (fun v hv => cvv_ext [q] hlen (hO v hv))
  rw [List.map_cons, hm, cvR G _ (show 100 ≤ 100 + t by omega)] at hk
  have : adr (as ++ [q]) (Int.ofNat h.length) = q := by
    unfold adr
    rw [gdE (as ++ [q])]
    show ((as ++ [q])[h.length]?).getD 0 = q
    rw [List.getElem?_append_right (by omega)]
    simp [hlen]
  rw [this] at hk
  exact hk
theorem ini_vals (t k : Nat) : (am_ini t).getD k 0 = -1 ∨ (am_ini t).getD k 0 = 0 := by
  unfold am_ini
  rw [gdE, List.getElem?_map]
  cases hq : (am_ft t)[k]? with
  | none => exact Or.inr rfl
  | some g =>
    cases hb : Nat.ble 100 g with
    | true => exact Or.inl (by simp [hb])
    | false => exact Or.inr (by simp [hb])
theorem encF_ini (as : List Nat) (t : Nat) : encF as t (am_ini t) = encF [] t (am_ini t) := by
  unfold encF
  apply List.map_congr_left
  intro k hk
  have hk' : k < (am_ini t).length := List.mem_range.mp hk
  unfold hvx
  by_cases g : 100 ≤ sty t k
  · rw [if_pos g, if_pos g]
    have hz : (am_ini t).getD k 0 = -1 ∨ (am_ini t).getD k 0 = 0 := ini_vals t k
    rcases hz with z | z
    · rw [z]; rfl
    · exfalso
      unfold am_ini at z hk'
      rw [List.length_map] at hk'
      rw [gdE, List.getElem?_map, List.getElem?_eq_getElem hk'] at z
      have hg : (am_ft t)[k] = sty t k ∨ ¬ t ≤ 7 := by
        by_cases q : t ≤ 7
        · left; unfold sty; rw [if_pos q, gdE, List.getElem?_eq_getElem hk']; rfl
        · exact Or.inr q
      rcases hg with hg | hg
      · rw [hg] at z
        have : Nat.ble 100 (sty t k) = true := Nat.ble_eq_true_of_le g
        simp [this] at z
      · have : am_ft t = [] := by
          unfold am_ft
          split <;> first | rfl | omega
        rw [this] at hk'; simp at hk'
  · rw [if_neg g, if_neg g]
end STORE
