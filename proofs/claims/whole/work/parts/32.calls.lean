/-! Calls as steps. -/
section CALLS
variable {p : Program} {l : Launch} {e : Env} {R : Room} {s : State} {mm : MethodId} {args : Array Value} {below : List Frame} {meth : Method} {c : Code} {Q : State → Prop}
variable {G : AG} {n0 t0 pc : Nat} {as0 : List Nat} {ls st : List AV} {h : AH} {m d : Nat} {q : MI} {w0 : Cond}
set_option maxRecDepth 20000 in
theorem room_ok {d x rf rl : Nat} (h1 : d + 1 + 8 ≤ rf) (h2 : 100 * (d + 1) + 400 ≤ rl) (h3 : x ≤ 60) : d + 8 + 1 ≤ rf ∧ 8 + (x + 11) + (100 * d + 400) ≤ rl := ⟨by omega, by omega⟩
theorem getD_pre {as ex : List Nat} {k : Nat} (hk : k < as.length) : (as ++ ex).getD k 0 = as.getD k 0 := by
  rw [gdE, gdE, List.getElem?_append_left hk]
/-- what stands on the stack behind a call -/
def stR (rt : Nat) (x : Int) (st : List AV) : List AV := if rt = 9 then st else (rt, x) :: st
theorem after {as as1 : List Nat} {H H1 : Heap} {locs1 : List Loc} {cells slots : Nat} {lsA : Array Slot} {r : Int × AH} {rt : Nat} (hN : Gd G p l e R s mm args below meth c Q q.2.2.1 n0 t0 as0 (pc + 3) ls (stR rt r.1 st) r.2) (hE : ∃ ex, as = as0 ++ ex) (hR : RelP G as h H) (hL : LsR G as (tgs h) ls lsA q.2.2.1) (hO : ∀ v ∈ st, okv (tgs h) v) (hc : cells + n0 = h.length) (hs : slots + t0 = tot h)
    (hm1 : ∃ te, tgs r.2 = tgs h ++ te) (hm2 : tot h ≤ tot r.2) (hE1 : ∃ ex, as1 = as ++ ex) (ho : rt ≠ 9 → okv (tgs r.2) (rt, r.1)) (hR1 : RelP G as1 r.2 H1) (hS1 : va_S (gA G) s.heap H1 locs1) :
    W p l e R s mm args below meth c H1 locs1 (cells + (r.2.length - h.length)) (slots + (tot r.2 - tot h)) Q (F0 mm (pc + 3) lsA ((retV G as1 rt r.1).toList ++ st.map (cvv G as))) := by
  have hml := tg_len hm1
  obtain ⟨te, hte⟩ := hm1
  obtain ⟨ex1, rfl⟩ := hE1
  have hm : st.map (cvv G (as ++ ex1)) = st.map (cvv G as) := List.map_congr_left (fun v hv => cvv_ext ex1 hR.1 (hO v hv))
  have hO1 : ∀ v ∈ st, okv (tgs r.2) v := fun v hv => by rw [hte]; exact okv_ext te (hO v hv)
  have hk := hN (as ++ ex1) H1 locs1 (cells + (r.2.length - h.length)) (slots + (tot r.2 - tot h)) lsA (by obtain ⟨ex, rfl⟩ := hE; exact ⟨ex ++ ex1, by rw [List.append_assoc]⟩) hR1 hS1 (by rw [hte]; exact hL.ext ex1 hR.1 te) ?_ (by omega) (by omega)
  · unfold stR at hk
    unfold retV
    by_cases h9 : rt = 9
    · rw [if_pos h9] at hk ⊢
      rw [hm] at hk
      exact hk
    · rw [if_neg h9] at hk ⊢
      rw [List.map_cons, hm] at hk
      exact hk
  · unfold stR
    by_cases h9 : rt = 9
    · rw [if_pos h9]; exact hO1
    · rw [if_neg h9]; exact oks_cons (ho h9) hO1
theorem ksAt {as : List Nat} {H : Heap} {locs : List Loc} {avs : List AV} (hK : KS G (as0.getD 0 0) (as0.getD 1 0) s) (hl0 : 2 ≤ as0.length) (hE : ∃ ex, as = as0 ++ ex) (hS : va_S (gA G) s.heap H locs) (hR : RelP G as h H) : ∀ U : State, U.heap = H → s.WarmedH U.vm → PcA G as avs h (avs.map (cvv G as)).toArray U := by
  intro U hU hW
  obtain ⟨ex, rfl⟩ := hE
  refine ⟨rfl, ?_, by rw [hU]; exact hR⟩
  rw [getD_pre (by omega), getD_pre (by omega)]
  exact hK.warm hW (by rw [hU]; exact hS.1) (fun z h1 h2 => by rw [hU]; exact hS.2.1 z h1 h2)
theorem oks_app {tg : List Nat} {a b : List AV} (h1 : ∀ v ∈ a.reverse ++ b, okv tg v) : (∀ v ∈ a, okv tg v) ∧ ∀ v ∈ b, okv tg v := ⟨fun v hv => h1 v (List.mem_append.mpr (Or.inl (List.mem_reverse.mpr hv))), fun v hv => h1 v (List.mem_append.mpr (Or.inr hv))⟩
theorem g_callS (C : CX G m q (d + 1) p R s mm args meth c as0 w0) {i m' : Nat} {q' : MI} {avs : List AV} {r : Int × AH} (hd : decode q.2.1 pc = .ok (.invokestatic i, 3)) (hq' : am_inf[m']? = some q') (hlaw : q'.1 ≠ yL_law) (hk : q'.2.2.2.2.2.1 = 0) (hn : avs.length = q'.2.2.2.2.2.2.1)
    (hlk : Cond.methodLink (ownN q.2.2.2.2.2.2.2.2) i q'.1 ∈ WSg ∨ Cond.methodLinkNest (ownN q.2.2.2.2.2.2.2.2) i q'.1 RX7 ∈ nestM) (hct : catL st ≤ 8) (hle : (argL avs).length ≤ q'.2.2.1) (hSim : Sim G l m' d 0 (padL q'.2.2.1 (argL avs)) [] h r) (hrc : r.2.length ≤ n0 + R.cells) (hrs : tot r.2 ≤ t0 + R.slots)
    (hN : Gd G p l e R s mm args below meth c Q q.2.2.1 n0 t0 as0 (pc + 3) ls (stR q'.2.2.2.2.1 r.1 st) r.2) : Gd G p l e R s mm args below meth c Q q.2.2.1 n0 t0 as0 pc ls (avs.reverse ++ st) h := by
  intro as H locs cells slots lsA hE hR hS hL hO hc hs
  obtain ⟨-, hx, hb, hml, hown, hts, hK, hl0, -, hfr, hlo⟩ := C
  have hw : ∀ w ∈ WSg, w.before args s = true := fun w h => hts w (List.mem_cons_of_mem _ h)
  obtain ⟨hOa, hOs⟩ := oks_app hO
  have hinf := inf_ok q' (List.mem_of_getElem? hq')
  have hmx := (inf_mx q' (List.mem_of_getElem? hq')).1
  have hws := hinf.2.2.2.2 hlaw
  rw [hk] at hws
  have M := met_of (as := as) hSim hq' hlaw hle hOa
  have hml2 := tg_len hSim.1.1
  have hms := hSim.1.2
  have hst : (avs.reverse ++ st).map (cvv G as) = (avs.map (cvv G as)).reverse ++ st.map (cvv G as) := by rw [List.map_append, List.map_reverse]
  have hf : cells + (r.2.length - h.length) ≤ R.cells ∧ slots + (tot r.2 - tot h) ≤ R.slots := ⟨by omega, by omega⟩
  have hR' : (rmD d (r.2.length - h.length) (tot r.2 - tot h)).frames + 1 ≤ R.frames ∧ 8 + (q'.2.2.1 + 11) + (rmD d (r.2.length - h.length) (tot r.2 - tot h)).locals ≤ R.locals := room_ok hfr hlo hmx
  rw [hst]
  rcases hlk with hlk | hlk
  · exact call_am (va_runS (As := avs.map (cvv G as)) (rest := st.map (cvv G as)) ⟨hx, hb, hml, hown, hts⟩ M ⟨callB_of q'.2.2.2.2.2.2.1 hts (gI (inc hws.1)) rfl rfl rfl (hw _ hws.2.1) (hw _ hlk) ⟨hinf.2.2.2.1.2.1, hinf.2.2.2.1.2.2, hinf.2.2.1⟩ hR', hw _ hws.2.2⟩ ⟨blindA _ _ _ _, ksAt hK hl0 hE hS hR⟩ rfl (by rw [List.length_map]; exact hn) hL.2.2.1 rfl (lv_room (by rw [catE]; exact hct)) hd hf) hS (fun as1 H1 locs1 hE1 ho hR1 hS1 => after hN hE hR hL hOs hc hs hSim.1.1 hSim.1.2 hE1 ho hR1 hS1)
  · exact call_am (va_runSN (As := avs.map (cvv G as)) (rest := st.map (cvv G as)) ⟨hx, hb, hml, hown, hts⟩ M ⟨va_cnB q'.2.2.2.2.2.2.1 hts (gI (inc hws.1)) rfl rfl rfl (hK.2.2.2.2.2.2.2.2.1 _ hlk) (hw _ hws.2.1) ⟨hinf.2.2.2.1.2.1, hinf.2.2.2.1.2.2, hinf.2.2.1⟩ hR', hw _ hws.2.2, trivial⟩ ⟨blindA _ _ _ _, ksAt hK hl0 hE hS hR⟩ rfl (by rw [List.length_map]; exact hn) hL.2.2.1 rfl (lv_room (by rw [catE]; exact hct)) hd hf) hS (fun as1 H1 locs1 hE1 ho hR1 hS1 => after hN hE hR hL hOs hc hs hSim.1.1 hSim.1.2 hE1 ho hR1 hS1)
theorem g_callV (C : CX G m q (d + 1) p R s mm args meth c as0 w0) {i m' t : Nat} {q' : MI} {a : Int} {avs : List AV} {r : Int × AH} (hd : decode q.2.1 pc = .ok (.invokevirtual i, 3)) (hq' : am_inf[m']? = some q') (hlaw : q'.1 ≠ yL_law) (hk : q'.2.2.2.2.2.1 = 1) (hn : avs.length = q'.2.2.2.2.2.2.1) (ht : t ≤ 7) (htq : q'.2.2.2.2.2.2.2.1 = t)
    (hlk : Cond.methodLink (ownN q.2.2.2.2.2.2.2.2) i q'.1 ∈ WSg) (hct : catL st ≤ 8) (hle : (argL ((100 + t, a) :: avs)).length ≤ q'.2.2.1) (hSim : Sim G l m' d 0 (padL q'.2.2.1 (argL ((100 + t, a) :: avs))) [] h r) (hrc : r.2.length ≤ n0 + R.cells) (hrs : tot r.2 ≤ t0 + R.slots)
    (hN : Gd G p l e R s mm args below meth c Q q.2.2.1 n0 t0 as0 (pc + 3) ls (stR q'.2.2.2.2.1 r.1 st) r.2) : Gd G p l e R s mm args below meth c Q q.2.2.1 n0 t0 as0 pc ls (((100 + t, a) :: avs).reverse ++ st) h := by
  intro as H locs cells slots lsA hE hR hS hL hO hc hs
  obtain ⟨-, hx, hb, hml, hown, hts, hK, hl0, -, hfr, hlo⟩ := C
  have hw : ∀ w ∈ WSg, w.before args s = true := fun w h => hts w (List.mem_cons_of_mem _ h)
  obtain ⟨hOa, hOs⟩ := oks_app hO
  have hinf := inf_ok q' (List.mem_of_getElem? hq')
  have hmx := (inf_mx q' (List.mem_of_getElem? hq')).1
  have hws := hinf.2.2.2.2 hlaw
  rw [hk] at hws
  have M := met_of (as := as) hSim hq' hlaw hle hOa
  have hml2 := tg_len hSim.1.1
  have hms := hSim.1.2
  have hst : (((100 + t, a) :: avs).reverse ++ st).map (cvv G as) = (avs.map (cvv G as)).reverse ++ .ref (adr as a) :: st.map (cvv G as) := by
    rw [List.map_append, List.map_reverse, List.map_cons, cvR G as (show 100 ≤ 100 + t by omega)]
    simp
  have hf : cells + (r.2.length - h.length) ≤ R.cells ∧ slots + (tot r.2 - tot h) ≤ R.slots := ⟨by omega, by omega⟩
  have hR' : (rmD d (r.2.length - h.length) (tot r.2 - tot h)).frames + 1 ≤ R.frames ∧ 8 + (q'.2.2.1 + 11) + (rmD d (r.2.length - h.length) (tot r.2 - tot h)).locals ≤ R.locals := room_ok hfr hlo hmx
  obtain ⟨ha0, hat⟩ := okR (show 100 ≤ 100 + t by omega) (hOa (100 + t, a) List.mem_cons_self)
  rw [show 100 + t - 100 = t by omega] at hat
  obtain ⟨xs, hxs⟩ := tg_at hat
  have h2 := hR.at2 hxs (by omega)
  have he := wd_get (G := G) (as := as) h2 hxs
  rw [enc_o ht] at he
  have hcl : q'.1.cls = cN t := by rw [← htq]; exact hws.2.2.2.2
  have hrecv := va_recv hK.1 hR.2.2.2.2.2.1 (ci := t) (q0 := a.toNat - 2) (clA_at ht) he
  rw [hst]
  have hpre : PreV s H q'.1.cls (adr as a) (PcA G as ((100 + t, a) :: avs) h) (avs.map (cvv G as)) := by
    refine ⟨blindA _ _ _ _, by rw [hcl]; exact hrecv, fun U hU hW => ?_⟩
    have := ksAt (avs := (100 + t, a) :: avs) hK hl0 hE hS hR U hU hW
    rw [List.map_cons, cvR G as (show 100 ≤ 100 + t by omega)] at this
    exact this
  exact call_am (va_runV (As := avs.map (cvv G as)) (rest := st.map (cvv G as)) ⟨hx, hb, hml, hown, hts⟩ M ⟨callB_of q'.2.2.2.2.2.2.1 hts (gI (inc hws.1)) rfl rfl rfl (hw _ hws.2.1) (hw _ hlk) ⟨hinf.2.2.2.1.2.1, hinf.2.2.2.1.2.2, hinf.2.2.1⟩ hR', hw _ hws.2.2.1, hw _ hws.2.2.2.1⟩ hpre rfl (by rw [List.length_map]; exact hn) hL.2.2.1 rfl (lv_room (by rw [catE]; exact hct)) hd hf) hS (fun as1 H1 locs1 hE1 ho hR1 hS1 => after hN hE hR hL hOs hc hs hSim.1.1 hSim.1.2 hE1 ho hR1 hS1)
theorem g_callI (C : CX G m q (d + 1) p R s mm args meth c as0 w0) {i m' t : Nat} {q' : MI} {a : Int} {avs : List AV} {r : Int × AH} (hd : decode q.2.1 pc = .ok (.invokespecial i, 3)) (hq' : am_inf[m']? = some q') (hlaw : q'.1 ≠ yL_law) (hk : q'.2.2.2.2.2.1 = 2) (hn : avs.length = q'.2.2.2.2.2.2.1)
    (hlk : Cond.methodLink (ownN q.2.2.2.2.2.2.2.2) i q'.1 ∈ WSg ∨ Cond.methodLinkNest (ownN q.2.2.2.2.2.2.2.2) i q'.1 RX7 ∈ nestM) (hct : catL st ≤ 8) (hle : (argL ((100 + t, a) :: avs)).length ≤ q'.2.2.1) (hSim : Sim G l m' d 0 (padL q'.2.2.1 (argL ((100 + t, a) :: avs))) [] h r) (hrc : r.2.length ≤ n0 + R.cells) (hrs : tot r.2 ≤ t0 + R.slots)
    (hN : Gd G p l e R s mm args below meth c Q q.2.2.1 n0 t0 as0 (pc + 3) ls (stR q'.2.2.2.2.1 r.1 st) r.2) : Gd G p l e R s mm args below meth c Q q.2.2.1 n0 t0 as0 pc ls (((100 + t, a) :: avs).reverse ++ st) h := by
  intro as H locs cells slots lsA hE hR hS hL hO hc hs
  obtain ⟨-, hx, hb, hml, hown, hts, hK, hl0, -, hfr, hlo⟩ := C
  have hw : ∀ w ∈ WSg, w.before args s = true := fun w h => hts w (List.mem_cons_of_mem _ h)
  obtain ⟨hOa, hOs⟩ := oks_app hO
  have hinf := inf_ok q' (List.mem_of_getElem? hq')
  have hmx := (inf_mx q' (List.mem_of_getElem? hq')).1
  have hws := hinf.2.2.2.2 hlaw
  rw [hk] at hws
  have M := met_of (as := as) hSim hq' hlaw hle hOa
  rw [hws.2.2.2.2] at M hws
  have hml2 := tg_len hSim.1.1
  have hms := hSim.1.2
  have hst : (((100 + t, a) :: avs).reverse ++ st).map (cvv G as) = (avs.map (cvv G as)).reverse ++ .ref (adr as a) :: st.map (cvv G as) := by
    rw [List.map_append, List.map_reverse, List.map_cons, cvR G as (show 100 ≤ 100 + t by omega)]
    simp
  have hf : cells + (r.2.length - h.length) ≤ R.cells ∧ slots + (tot r.2 - tot h) ≤ R.slots := ⟨by omega, by omega⟩
  have hR' : (rmD d (r.2.length - h.length) (tot r.2 - tot h)).frames + 1 ≤ R.frames ∧ 8 + (q'.2.2.1 + 11) + (rmD d (r.2.length - h.length) (tot r.2 - tot h)).locals ≤ R.locals := room_ok hfr hlo hmx
  rw [hst]
  have hpre : PreS s H (PcA G as ((100 + t, a) :: avs) h) (.ref (adr as a) :: avs.map (cvv G as)) := by
    refine ⟨blindA _ _ _ _, fun U hU hW => ?_⟩
    have := ksAt (avs := (100 + t, a) :: avs) hK hl0 hE hS hR U hU hW
    rw [List.map_cons, cvR G as (show 100 ≤ 100 + t by omega)] at this
    exact this
  rcases hlk with hlk | hlk
  · exact call_am (va_runI (As := avs.map (cvv G as)) (rest := st.map (cvv G as)) ⟨hx, hb, hml, hown, hts⟩ M ⟨callB_of q'.2.2.2.2.2.2.1 hts (gI (inc hws.1)) rfl rfl rfl (hw _ hws.2.1) (hw _ hlk) ⟨hinf.2.2.2.1.2.1, hinf.2.2.2.1.2.2, hinf.2.2.1⟩ hR', hws.2.2.2.1, hw _ hws.2.2.1⟩ hpre rfl (by rw [List.length_map]; exact hn) hL.2.2.1 rfl (lv_room (by rw [catE]; exact hct)) hd hf) hS (fun as1 H1 locs1 hE1 ho hR1 hS1 => after hN hE hR hL hOs hc hs hSim.1.1 hSim.1.2 hE1 ho hR1 hS1)
  · exact call_am (va_runIN (As := avs.map (cvv G as)) (rest := st.map (cvv G as)) ⟨hx, hb, hml, hown, hts⟩ M ⟨va_cnB q'.2.2.2.2.2.2.1 hts (gI (inc hws.1)) rfl rfl rfl (hK.2.2.2.2.2.2.2.2.1 _ hlk) (hw _ hws.2.1) ⟨hinf.2.2.2.1.2.1, hinf.2.2.2.1.2.2, hinf.2.2.1⟩ hR', hws.2.2.2.1, hw _ hws.2.2.1⟩ hpre rfl (by rw [List.length_map]; exact hn) hL.2.2.1 rfl (lv_room (by rw [catE]; exact hct)) hd hf) hS (fun as1 H1 locs1 hE1 ho hR1 hS1 => after hN hE hR hL hOs hc hs hSim.1.1 hSim.1.2 hE1 ho hR1 hS1)
end CALLS
