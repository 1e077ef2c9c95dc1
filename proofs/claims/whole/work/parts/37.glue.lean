/-! From a run of the law in the abstract machine to the walk of its body. -/
def h0 (scr : List Int) : AH := [(26, scr), (26, ovr)]
def LawRun : Prop := ∀ scr : List Int, scr.length ≤ 2560 → (∀ x ∈ scr, inI x) → ∃ h' : AH, run 60 m_La_law 0 [(126, 0), (9, 0), (9, 0), (9, 0)] [] (h0 scr) = some (1, h') ∧ h'.length ≤ 600002 ∧ tot h' ≤ tot (h0 scr) + 7302250
theorem glue_start (HL : LawRun) {p : Program} {e : Env} {s : State} {m : MethodId} {below : List Frame} {meth : Method} {c : Code} (l : Launch) {b L : Nat} {xs : Nat → Int32} (hL : L ≤ 2560) (C0 : lw_At p s m meth c b L xs) : W p l e room_1 s m #[Value.ref b] below meth c s.heap [] 0 0 (lw_Z below #[Value.ref b] s) (entryFrame m ([Value.ref b] : List Value).toArray 4) := by
  obtain ⟨hx, hb, hr, hml, hown, hts, hX, hbl, hlocks, hgv⟩ := C0
  obtain ⟨G, ov, hgS, hgA, hK⟩ := ks_start hts hX hbl hgv hL
  have hlen : (gS G).length ≤ 2560 := by rw [hgS]; simpa using hL
  have hin : ∀ x ∈ gS G, inI x := by
    rw [hgS]
    intro x hx
    obtain ⟨j, -, rfl⟩ := List.mem_map.mp hx
    exact inI_of _
  obtain ⟨h', hrun, hc, hs⟩ := HL (gS G) hlen hin
  obtain ⟨f, hf⟩ := ((run_lim _ _ _ _ _ _).2 _).mp hrun
  obtain ⟨-, hS⟩ := am_sim (G := G) (l := l) f _ _ _ _ _ _ _ hf
  have hR : RelP G [b, ov] (h0 (gS G)) s.heap := rel_start
  have hq : am_inf[m_La_law]? = some (yL_law, cL_law, 4, (some .boolean), 0, 0, 1, 9, 10) := rfl
  have hw : ∀ w ∈ Cond.initialized "SownSeeds$Kind" :: WSg, w.before #[Value.ref b] s = true := by
    intro w h
    rcases List.mem_cons.mp h with h | h
    · rw [h]; exact hts _ tb_in.1
    · exact hts _ (List.mem_filter.mp h).1
  have hl := lv_entry ([Value.ref b] : List Value) (n := 4) (show 1 ≤ 4 by decide)
  rw [lg_entry_eq]
  generalize (lg_sl ([Value.ref b] : List Value) ++ List.replicate (4 - (lg_sl ([Value.ref b] : List Value)).length) Slot.unset).toArray = lsA at hl ⊢
  have hav : ∀ v ∈ ([(126, 0)] : List AV), okv (tgs (h0 (gS G))) v := by
    intro v hv
    rw [List.mem_singleton.mp hv]
    exact Or.inr (Or.inr (Or.inr ⟨by decide, by decide, rfl⟩))
  have hLs : LsR G [b, ov] (tgs (h0 (gS G))) [(126, 0), (9, 0), (9, 0), (9, 0)] lsA 4 := ent_LsR (avs := [(126, 0)]) (n := 4) hav hl
  refine hS (yL_law, cL_law, 4, (some .boolean), 0, 0, 1, 9, 10) p e room_1 s m #[Value.ref b] below meth c (lw_Z below #[Value.ref b] s) 2 (tot (h0 (gS G))) [b, ov] (Cond.initialized "SownSeeds$Kind") ⟨hq, hx, hb, hml, hown, hw, hK, Nat.le_refl _, fun z => (by cases z), by decide, by decide⟩ (by show h'.length ≤ 2 + 600000; omega) hs ?_ [b, ov] s.heap [] 0 0 lsA ⟨[], rfl⟩ hR va_S.rf hLs (fun v hv => absurd hv List.not_mem_nil) rfl (by omega)
  intro pc as1 H locs cells slots lsB hE hR1 hS1 hc1 hs1
  have hc1 : cells + 2 = h'.length := hc1
  have hs1 : slots + tot (h0 (gS G)) = tot h' := hs1
  refine ⟨fun hd _ _ _ => ?_, fun _ z => (by cases z), fun _ z => absurd z (by decide), fun _ z => (by cases z)⟩
  refine va_forget (fun q hq => ?_) ?_
  · have := hS1.2.2 q hq
    unfold gA at this
    rw [hgA] at this
    exact this
  · refine W.widen (k := 600000) (n := 7302250) (by omega) (by omega) ?_
    exact lw_ret hx hb hr hlocks hd
