/-! String.length and String.charAt of the class's String constants. -/
section STR
variable {l : Launch} {G : AG} {a0 a1 : Nat}
def PcJ (G : AG) (a0 a1 : Nat) (av : List Value) : Array Value → State → Prop := fun v U => v = av.toArray ∧ KS G a0 a1 U
theorem blindJ (av : List Value) : FrameBlind (PcJ G a0 a1 av) := fun a U g mk h => ⟨h.1, h.2.same rfl rfl⟩
theorem gI {w0 : Cond} {ws' : List Cond} (h : ∀ w ∈ ws', w ∈ WSg) : GoodIn (w0 :: WSg) ws' := fun w hw => ⟨List.mem_cons_of_mem _ (h w hw), good_of_word (List.mem_filter.mp (h w hw)).2⟩
theorem inc {w : Cond} (h : w ∈ WSg) : ∀ u ∈ w :: WSg, u ∈ WSg := fun u hu => (List.mem_cons.mp hu).elim (fun e => e ▸ h) id
theorem preJ {s : State} {H : Heap} {av : List Value} (hK : KS G a0 a1 s) (hH : H = s.heap) : ∀ U : State, U.heap = H → s.WarmedH U.vm → PcJ G a0 a1 av av.toArray U := fun U hU hW => ⟨rfl, hK.warm hW (by rw [hU, hH]; exact Nat.le_refl _) (fun q _ _ => by rw [hU, hH])⟩
set_option maxRecDepth 100000 in
theorem c_coder {i : Nat} (hi : i < 9) : Met l yJ0_coder_7d493 (Cond.code yJ0_coder_7d493 cJ0_coder_7d493 1 (some .byte) :: WSg) { frames := 0, cells := 0, slots := 0, locals := 0 } (PcJ G a0 a1 [.ref (gK G i)]) (QcRead 0) 0 0 (fun _ => False) := by
  refine Met.ofW (cc := cJ0_coder_7d493) (maxL := 1) (ret := (some .byte)) (by decide) rfl ?_
  intro p e s m args below meth c s₁ B hml hv
  obtain ⟨rfl, hK⟩ := hv
  have hx := B.exec
  have hb := B.bytes
  have hr := B.returns
  have hts := atoms_spec (ws := Cond.code yJ0_coder_7d493 cJ0_coder_7d493 1 (some .byte) :: WSg) B.pre
  have hw : ∀ w ∈ WSg, w.before _ s = true := fun w h => hts w (List.mem_cons_of_mem _ h)
  have hown : s.vm.findClass RJ0 = some m.cls := findClass_of_methodNamed B.named
  have hlocks := B.notSynchronized
  have hS : va_S (gA G) s.heap s.heap [] := va_S.rf
  have hl := lv_entry ([.ref (gK G i)]) (n := 1) (Nat.le_of_ble_eq_true rfl)
  rw [lg_entry_eq]
  generalize (lg_sl ([.ref (gK G i)]) ++ List.replicate (1 - (lg_sl ([.ref (gK G i)])).length) Slot.unset).toArray = ls at hl ⊢
  refine va_gets hx hb hK.2.2.2.2.1 hS hown (hw _ wj_f_cs) (fun z hz => hz) dJ0_coder_7d493_0 ?_
  refine lv_if_eq (tgt := 13) hx hb dJ0_coder_7d493_3 (by decide) (fun q => absurd q (by decide)) (fun _ => ?_)
  refine lv_aload_n hx hb dJ0_coder_7d493_6 rfl (lv_at hl 0 rfl) ?_
  refine vk_getf hx hb (hK.2.2.2.2.2.1.1 i hi).2.1 hS hown (hw _ wj_f_co) (fun z hz => hz) dJ0_coder_7d493_7 ?_
  refine lv_goto (tgt := 14) hx hb dJ0_coder_7d493_10 (by decide) ?_
  exact W.zret (ty := .byte) hx hb hr rfl (fun t ht _ => ⟨rfl, ht⟩) (fun q h => by cases h) dJ0_coder_7d493_14
set_option maxRecDepth 100000 in
theorem c_isl {i : Nat} (hi : i < 9) : Met l yJ0_isLatin1_aae02 (Cond.code yJ0_isLatin1_aae02 cJ0_isLatin1_aae02 1 (some .boolean) :: WSg) { frames := 0, cells := 0, slots := 0, locals := 0 } (PcJ G a0 a1 [.ref (gK G i)]) (QcRead 1) 0 0 (fun _ => False) := by
  refine Met.ofW (cc := cJ0_isLatin1_aae02) (maxL := 1) (ret := (some .boolean)) (by decide) rfl ?_
  intro p e s m args below meth c s₁ B hml hv
  obtain ⟨rfl, hK⟩ := hv
  have hx := B.exec
  have hb := B.bytes
  have hr := B.returns
  have hts := atoms_spec (ws := Cond.code yJ0_isLatin1_aae02 cJ0_isLatin1_aae02 1 (some .boolean) :: WSg) B.pre
  have hw : ∀ w ∈ WSg, w.before _ s = true := fun w h => hts w (List.mem_cons_of_mem _ h)
  have hown : s.vm.findClass RJ0 = some m.cls := findClass_of_methodNamed B.named
  have hlocks := B.notSynchronized
  have hS : va_S (gA G) s.heap s.heap [] := va_S.rf
  have hl := lv_entry ([.ref (gK G i)]) (n := 1) (Nat.le_of_ble_eq_true rfl)
  rw [lg_entry_eq]
  generalize (lg_sl ([.ref (gK G i)]) ++ List.replicate (1 - (lg_sl ([.ref (gK G i)])).length) Slot.unset).toArray = ls at hl ⊢
  refine va_gets hx hb hK.2.2.2.2.1 hS hown (hw _ wj_f_cs) (fun z hz => hz) dJ0_isLatin1_aae02_0 ?_
  refine lv_if_eq (tgt := 17) hx hb dJ0_isLatin1_aae02_3 (by decide) (fun q => absurd q (by decide)) (fun _ => ?_)
  refine lv_aload_n hx hb dJ0_isLatin1_aae02_6 rfl (lv_at hl 0 rfl) ?_
  refine vk_getf hx hb (hK.2.2.2.2.2.1.1 i hi).2.1 hS hown (hw _ wj_f_co) (fun z hz => hz) dJ0_isLatin1_aae02_7 ?_
  refine lv_if_ne (tgt := 17) hx hb dJ0_isLatin1_aae02_10 (by decide) (fun q => absurd q (by decide)) (fun _ => ?_)
  refine lv_iconst (v := 1) hx hb dJ0_isLatin1_aae02_13 (by decide) ?_
  refine lv_goto (tgt := 18) hx hb dJ0_isLatin1_aae02_14 (by decide) ?_
  exact W.zret (ty := .boolean) hx hb hr rfl (fun t ht _ => ⟨rfl, ht⟩) (fun q h => by cases h) dJ0_isLatin1_aae02_18
theorem sh0 : ∀ i, i < 9 → Int32.ofNat (lenS.getD i 0) >>> ((0 : Int32) &&& 31) = Int32.ofNat (lenS.getD i 0) := by decide +kernel
set_option maxRecDepth 100000 in
theorem c_len {i : Nat} (hi : i < 9) : Met l yJ0_length_8abf5 (Cond.code yJ0_length_8abf5 cJ0_length_8abf5 1 (some .int) :: WSg) { frames := 1, cells := 0, slots := 0, locals := 20 } (PcJ G a0 a1 [.ref (gK G i)]) (QcRead (Int32.ofNat (lenS.getD i 0))) 0 0 (fun _ => False) := by
  refine Met.ofW (cc := cJ0_length_8abf5) (maxL := 1) (ret := (some .int)) (by decide) rfl ?_
  intro p e s m args below meth c s₁ B hml hv
  obtain ⟨rfl, hK⟩ := hv
  have hx := B.exec
  have hb := B.bytes
  have hr := B.returns
  have hts := atoms_spec (ws := Cond.code yJ0_length_8abf5 cJ0_length_8abf5 1 (some .int) :: WSg) B.pre
  have hw : ∀ w ∈ WSg, w.before _ s = true := fun w h => hts w (List.mem_cons_of_mem _ h)
  have hown : s.vm.findClass RJ0 = some m.cls := findClass_of_methodNamed B.named
  have hlocks := B.notSynchronized
  have hS : va_S (gA G) s.heap s.heap [] := va_S.rf
  have hl := lv_entry ([.ref (gK G i)]) (n := 1) (Nat.le_of_ble_eq_true rfl)
  rw [lg_entry_eq]
  generalize (lg_sl ([.ref (gK G i)]) ++ List.replicate (1 - (lg_sl ([.ref (gK G i)])).length) Slot.unset).toArray = ls at hl ⊢
  refine lv_aload_n hx hb dJ0_length_8abf5_0 rfl (lv_at hl 0 rfl) ?_
  refine vk_getf hx hb (hK.2.2.2.2.2.1.1 i hi).2.2.1 hS hown (hw _ wj_f_va) (fun z hz => hz) dJ0_length_8abf5_1 ?_
  obtain ⟨cell, h1, h2, h3, h4, h5, h6, h7⟩ := (hK.2.2.2.2.2.1.1 i hi).2.2.2
  refine W.alen (n := Int32.ofNat (lenS.getD i 0)) hx hb h1 h2 h5 (g := F0 m 4 ls _) rfl rfl dJ0_length_8abf5_4 ?_
  refine lv_aload_n hx hb dJ0_length_8abf5_5 rfl (lv_at hl 0 rfl) ?_
  refine W.callR (W.runV (As := []) (rest := [.int (Int32.ofNat (lenS.getD i 0))]) ⟨hx, hb, hml, hown, hts⟩ (c_coder (a0 := a0) (a1 := a1) hi) ⟨callB_of 0 hts (gI (inc wj_cod_code)) rfl rfl rfl (hw _ wj_ini_RJ0) (hw _ wj_lk_cod) (by decide +kernel) ⟨Nat.le_of_ble_eq_true rfl, Nat.le_of_ble_eq_true rfl⟩, hw _ wj_cod_inst, hw _ wj_cod_sel⟩ ⟨blindJ _, vk_recv hK.2.2.2.2.2.1 hi hS, preJ hK rfl⟩ rfl rfl hl.1 rfl (lv_room (Nat.le_of_ble_eq_true rfl)) dJ0_length_8abf5_6 ⟨Nat.le_refl _, Nat.le_refl _⟩) ?_
  refine lv_ishr hx hb dJ0_length_8abf5_9 ?_
  rw [sh0 i hi]
  exact W.iret hx hb hr (fun t ht _ => ⟨rfl, ht⟩) (fun q h => by cases h) dJ0_length_8abf5_10
set_option maxRecDepth 100000 in
theorem c_pre {x n : Int32} {v : Value} (hv : v = .null ∨ ∃ a, v = .ref a) (h0 : ¬ x < 0) (hn : x < n) : Met l yJ3_checkIndex_8e157 (Cond.code yJ3_checkIndex_8e157 cJ3_checkIndex_8e157 3 (some .int) :: WSg) { frames := 0, cells := 0, slots := 0, locals := 0 } (PcJ G a0 a1 [.int x, .int n, v]) (QcRead x) 0 0 (fun _ => False) := by
  refine Met.ofW (cc := cJ3_checkIndex_8e157) (maxL := 3) (ret := (some .int)) (by decide) rfl ?_
  intro p e s m args below meth c s₁ B hml hv
  obtain ⟨rfl, hK⟩ := hv
  have hx := B.exec
  have hb := B.bytes
  have hr := B.returns
  have hts := atoms_spec (ws := Cond.code yJ3_checkIndex_8e157 cJ3_checkIndex_8e157 3 (some .int) :: WSg) B.pre
  have hw : ∀ w ∈ WSg, w.before _ s = true := fun w h => hts w (List.mem_cons_of_mem _ h)
  have hown : s.vm.findClass RJ3 = some m.cls := findClass_of_methodNamed B.named
  have hlocks := B.notSynchronized
  have hS : va_S (gA G) s.heap s.heap [] := va_S.rf
  have hl := lv_entry ([.int x, .int n, v]) (n := 3) (by rcases hv with rfl | ⟨a, rfl⟩ <;> exact Nat.le_of_ble_eq_true rfl)
  have hl : lv_has _ 3 [(0, .int x), (1, .int n)] := lv_sub hl [0, 1] rfl
  rw [lg_entry_eq]
  generalize (lg_sl ([.int x, .int n, v]) ++ List.replicate (3 - (lg_sl ([.int x, .int n, v])).length) Slot.unset).toArray = ls at hl ⊢
  refine lv_iload_n hx hb dJ3_checkIndex_8e157_0 rfl (lv_at hl 0 rfl) ?_
  refine lv_if_lt (tgt := 9) hx hb dJ3_checkIndex_8e157_1 (by decide) (fun q => absurd q h0) (fun _ => ?_)
  refine lv_iload_n hx hb dJ3_checkIndex_8e157_4 rfl (lv_at hl 0 rfl) ?_
  refine lv_iload_n hx hb dJ3_checkIndex_8e157_5 rfl (lv_at hl 1 rfl) ?_
  refine lv_icmp_lt (tgt := 16) hx hb dJ3_checkIndex_8e157_6 (by decide) (fun _ => ?_) (fun q => absurd hn q)
  refine lv_iload_n hx hb dJ3_checkIndex_8e157_16 rfl (lv_at hl 0 rfl) ?_
  exact W.iret hx hb hr (fun t ht _ => ⟨rfl, ht⟩) (fun q h => by cases h) dJ3_checkIndex_8e157_17
def QcV0 : Array Value → State → Outcome → State → Prop := fun _ st o t => o = .returned none ∧ t.heap = st.heap
theorem callV0 {p : Program} {l : Launch} {e : Env} {R : Room} {s : State} {m : MethodId} {args : Array Value} {below : List Frame} {meth : Method} {c : Code} {H : Heap} {locs : List Loc} {cells slots : Nat} {Q : State → Prop} {g : JFrame} {rest : List Value} {a : Array Value}
    (hr : CallRun p l e R s m args below meth c H locs cells slots 0 0 g rest (QcV0 a) (fun _ => False)) (kk : W p l e R s m args below meth c H locs cells slots Q { g with pc := g.pc + 3, stack := rest }) : W p l e R s m args below meth c H locs cells slots Q g := by
  intro T hT X
  obtain ⟨v, st₀, t, T', L, h0, X', hL, e1, ⟨hv, hh⟩, st⟩ := hr T hT X
  cases hv
  obtain ⟨t2, a1, b1⟩ := kk T' (by rw [e1, hh, h0]) (Stand.forget X' (fun q h => (hL q h).elim))
  exact ⟨t2, st t2 a1, b1⟩
set_option maxRecDepth 100000 in
theorem c_chk {x n : Int32} (h0 : ¬ x < 0) (hn : x < n) : Met l yJ0_checkIndex_df160 (Cond.code yJ0_checkIndex_df160 cJ0_checkIndex_df160 2 none :: WSg) { frames := 1, cells := 0, slots := 0, locals := 22 } (PcJ G a0 a1 [.int x, .int n]) QcV0 0 0 (fun _ => False) := by
  refine Met.ofW (cc := cJ0_checkIndex_df160) (maxL := 2) (ret := none) (by decide) rfl ?_
  intro p e s m args below meth c s₁ B hml hv
  obtain ⟨rfl, hK⟩ := hv
  have hx := B.exec
  have hb := B.bytes
  have hr := B.returns
  have hts := atoms_spec (ws := Cond.code yJ0_checkIndex_df160 cJ0_checkIndex_df160 2 none :: WSg) B.pre
  have hw : ∀ w ∈ WSg, w.before _ s = true := fun w h => hts w (List.mem_cons_of_mem _ h)
  have hown : s.vm.findClass RJ0 = some m.cls := findClass_of_methodNamed B.named
  have hlocks := B.notSynchronized
  have hS : va_S (gA G) s.heap s.heap [] := va_S.rf
  have hl := lv_entry ([.int x, .int n]) (n := 2) (Nat.le_of_ble_eq_true rfl)
  rw [lg_entry_eq]
  generalize (lg_sl ([.int x, .int n]) ++ List.replicate (2 - (lg_sl ([.int x, .int n])).length) Slot.unset).toArray = ls at hl ⊢
  refine lv_iload_n hx hb dJ0_checkIndex_df160_0 rfl (lv_at hl 0 rfl) ?_
  refine lv_iload_n hx hb dJ0_checkIndex_df160_1 rfl (lv_at hl 1 rfl) ?_
  obtain ⟨v, hv, hz⟩ : ∃ v, (v = Value.null ∨ ∃ a, v = Value.ref a) ∧ va_Z "jdk/internal/util/Preconditions" "SIOOBE_FORMATTER" "Ljava/util/function/BiFunction;" v (gA G) s s.heap := by
    rcases hK.2.2.2.2.2.2.2.2.2.2.2.2.2.2 with hz | ⟨tq, hz⟩
    · exact ⟨_, Or.inl rfl, hz⟩
    · exact ⟨_, Or.inr ⟨tq, rfl⟩, hz⟩
  refine va_gets hx hb hz hS hown (hw _ wj_f_fo) (fun z hz => hz) dJ0_checkIndex_df160_2 ?_
  refine W.callR (W.runS (As := [.int x, .int n, v]) (rest := []) ⟨hx, hb, hml, hown, hts⟩ (c_pre (G := G) (a0 := a0) (a1 := a1) hv h0 hn) ⟨callB_of 3 hts (gI (inc wj_pre_code)) rfl rfl rfl (hw _ wj_ini_RJ3) (hw _ wj_lk_pre) (by decide +kernel) ⟨Nat.le_of_ble_eq_true rfl, Nat.le_of_ble_eq_true rfl⟩, hw _ wj_pre_st⟩ ⟨blindJ _, preJ hK rfl⟩ rfl rfl hl.1 rfl (lv_room (Nat.le_of_ble_eq_true rfl)) dJ0_checkIndex_df160_5 ⟨Nat.le_refl _, Nat.le_refl _⟩) ?_
  refine lv_pop hx hb dJ0_checkIndex_df160_8 rfl ?_
  exact W.vret hx hb hr (fun t ht _ => ⟨rfl, ht⟩) (fun q h => by cases h) dJ0_checkIndex_df160_9
theorem len_lt : ∀ i, i < 9 → lenS.getD i 0 < 2 ^ 31 := by decide +kernel
theorem chE : ∀ i, i < 9 → ∀ k, k < lenS.getD i 0 → ((((bytS.getD i []).getD k 0) &&& (Int16.ofInt 255).toInt32).toUInt32 % 65536).toInt32 = Int32.ofInt ((am_str.getD i []).getD k 0) ∧ narrow .char (.int (Int32.ofInt ((am_str.getD i []).getD k 0))) = .int (Int32.ofInt ((am_str.getD i []).getD k 0)) := by decide +kernel
set_option maxRecDepth 100000 in
theorem c_lat {i k : Nat} (hi : i < 9) (hk : k < lenS.getD i 0) : Met l yJ1_charAt_3b067 (Cond.code yJ1_charAt_3b067 cJ1_charAt_3b067 2 (some .char) :: WSg) { frames := 2, cells := 0, slots := 0, locals := 43 } (PcJ G a0 a1 [.ref (gV G i), .int (nI k)]) (QcRead (Int32.ofInt ((am_str.getD i []).getD k 0))) 0 0 (fun _ => False) := by
  refine Met.ofW (cc := cJ1_charAt_3b067) (maxL := 2) (ret := (some .char)) (by decide) rfl ?_
  intro p e s m args below meth c s₁ B hml hv
  obtain ⟨rfl, hK⟩ := hv
  have hx := B.exec
  have hb := B.bytes
  have hr := B.returns
  have hts := atoms_spec (ws := Cond.code yJ1_charAt_3b067 cJ1_charAt_3b067 2 (some .char) :: WSg) B.pre
  have hw : ∀ w ∈ WSg, w.before _ s = true := fun w h => hts w (List.mem_cons_of_mem _ h)
  have hown : s.vm.findClass RJ1 = some m.cls := findClass_of_methodNamed B.named
  have hlocks := B.notSynchronized
  have hS : va_S (gA G) s.heap s.heap [] := va_S.rf
  have hl := lv_entry ([.ref (gV G i), .int (nI k)]) (n := 2) (Nat.le_of_ble_eq_true rfl)
  rw [lg_entry_eq]
  generalize (lg_sl ([.ref (gV G i), .int (nI k)]) ++ List.replicate (2 - (lg_sl ([.ref (gV G i), .int (nI k)])).length) Slot.unset).toArray = ls at hl ⊢
  have hL := len_lt i hi
  obtain ⟨cell, h1, h2, h3, h4, h5, h6, h7⟩ := (hK.2.2.2.2.2.1.1 i hi).2.2.2
  refine lv_iload_n hx hb dJ1_charAt_3b067_0 rfl (lv_at hl 1 rfl) ?_
  refine lv_aload_n hx hb dJ1_charAt_3b067_1 rfl (lv_at hl 0 rfl) ?_
  refine W.alen (n := Int32.ofNat (lenS.getD i 0)) hx hb h1 h2 h5 (g := F0 m 2 ls _) rfl rfl dJ1_charAt_3b067_2 ?_
  refine callV0 (W.runS (As := [.int (nI k), .int (Int32.ofNat (lenS.getD i 0))]) (rest := []) ⟨hx, hb, hml, hown, hts⟩ (c_chk (G := G) (a0 := a0) (a1 := a1) (nI_pos (by omega)) (nI_lt hk hL)) ⟨callB_of 2 hts (gI (inc wj_chk_code)) rfl rfl rfl (hw _ wj_ini_RJ0) (hw _ wj_lk_chk) (by decide +kernel) ⟨Nat.le_of_ble_eq_true rfl, Nat.le_of_ble_eq_true rfl⟩, hw _ wj_chk_st⟩ ⟨blindJ _, preJ hK rfl⟩ rfl rfl hl.1 rfl (lv_room (Nat.le_of_ble_eq_true rfl)) dJ1_charAt_3b067_3 ⟨Nat.le_refl _, Nat.le_refl _⟩) ?_
  refine lv_aload_n hx hb dJ1_charAt_3b067_6 rfl (lv_at hl 0 rfl) ?_
  refine lv_iload_n hx hb dJ1_charAt_3b067_7 rfl (lv_at hl 1 rfl) ?_
  refine W.bald (v := .int ((bytS.getD i []).getD k 0)) hx hb h1 h2 h3 ?_ ?_ (g := F0 m 8 ls _) rfl rfl dJ1_charAt_3b067_8 ?_
  · rw [nI_clamp (by omega)]
    intro q
    rcases q with q | q
    · exact nI_pos (by omega) q
    · omega
  · rw [nI_clamp (by omega)]; exact h6 k hk
  refine lv_sipush hx hb dJ1_charAt_3b067_9 rfl ?_
  refine lv_iand hx hb dJ1_charAt_3b067_12 ?_
  refine lv_i2c hx hb dJ1_charAt_3b067_13 (chE i hi k hk).1 ?_
  exact W.zret (ty := .char) hx hb hr (chE i hi k hk).2 (fun t ht _ => ⟨rfl, ht⟩) (fun q h => by cases h) dJ1_charAt_3b067_14
set_option maxRecDepth 100000 in
theorem c_cha {i k : Nat} (hi : i < 9) (hk : k < lenS.getD i 0) : Met l yJ0_charAt_5068e (Cond.code yJ0_charAt_5068e cJ0_charAt_5068e 2 (some .char) :: WSg) { frames := 3, cells := 0, slots := 0, locals := 64 } (PcJ G a0 a1 [.ref (gK G i), .int (nI k)]) (QcRead (Int32.ofInt ((am_str.getD i []).getD k 0))) 0 0 (fun _ => False) := by
  refine Met.ofW (cc := cJ0_charAt_5068e) (maxL := 2) (ret := (some .char)) (by decide) rfl ?_
  intro p e s m args below meth c s₁ B hml hv
  obtain ⟨rfl, hK⟩ := hv
  have hx := B.exec
  have hb := B.bytes
  have hr := B.returns
  have hts := atoms_spec (ws := Cond.code yJ0_charAt_5068e cJ0_charAt_5068e 2 (some .char) :: WSg) B.pre
  have hw : ∀ w ∈ WSg, w.before _ s = true := fun w h => hts w (List.mem_cons_of_mem _ h)
  have hown : s.vm.findClass RJ0 = some m.cls := findClass_of_methodNamed B.named
  have hlocks := B.notSynchronized
  have hS : va_S (gA G) s.heap s.heap [] := va_S.rf
  have hl := lv_entry ([.ref (gK G i), .int (nI k)]) (n := 2) (Nat.le_of_ble_eq_true rfl)
  rw [lg_entry_eq]
  generalize (lg_sl ([.ref (gK G i), .int (nI k)]) ++ List.replicate (2 - (lg_sl ([.ref (gK G i), .int (nI k)])).length) Slot.unset).toArray = ls at hl ⊢
  refine lv_aload_n hx hb dJ0_charAt_5068e_0 rfl (lv_at hl 0 rfl) ?_
  refine W.callR (W.runV (As := []) (rest := []) ⟨hx, hb, hml, hown, hts⟩ (c_isl (a0 := a0) (a1 := a1) hi) ⟨callB_of 0 hts (gI (inc wj_isl_code)) rfl rfl rfl (hw _ wj_ini_RJ0) (hw _ wj_lk_isl) (by decide +kernel) ⟨Nat.le_of_ble_eq_true rfl, Nat.le_of_ble_eq_true rfl⟩, hw _ wj_isl_inst, hw _ wj_isl_sel⟩ ⟨blindJ _, vk_recv hK.2.2.2.2.2.1 hi hS, preJ hK rfl⟩ rfl rfl hl.1 rfl (lv_room (Nat.le_of_ble_eq_true rfl)) dJ0_charAt_5068e_1 ⟨Nat.zero_le _, Nat.zero_le _⟩) ?_
  refine lv_if_eq (tgt := 16) hx hb dJ0_charAt_5068e_4 (show ((4 : Nat) : Int) + 12 = ((16 : Nat) : Int) by decide) (fun q => absurd q (by decide)) (fun _ => ?_)
  refine lv_aload_n hx hb dJ0_charAt_5068e_7 rfl (lv_at hl 0 rfl) ?_
  refine vk_getf hx hb (hK.2.2.2.2.2.1.1 i hi).2.2.1 hS hown (hw _ wj_f_va) (fun z hz => hz) dJ0_charAt_5068e_8 ?_
  refine lv_iload_n hx hb dJ0_charAt_5068e_11 rfl (lv_at hl 1 rfl) ?_
  refine W.callR (W.runS (As := [.ref (gV G i), .int (nI k)]) (rest := []) ⟨hx, hb, hml, hown, hts⟩ (c_lat (a0 := a0) (a1 := a1) hi hk) ⟨callB_of 2 hts (gI (inc wj_lat_code)) rfl rfl rfl (hw _ wj_ini_RJ1) (hw _ wj_lk_lat) (by decide +kernel) ⟨Nat.le_of_ble_eq_true rfl, Nat.le_of_ble_eq_true rfl⟩, hw _ wj_lat_st⟩ ⟨blindJ _, preJ hK rfl⟩ rfl rfl hl.1 rfl (lv_room (Nat.le_of_ble_eq_true rfl)) dJ0_charAt_5068e_12 ⟨Nat.zero_le _, Nat.zero_le _⟩) ?_
  exact W.zret (ty := .char) hx hb hr (chE i hi k hk).2 (fun t ht _ => ⟨rfl, ht⟩) (fun q h => by cases h) dJ0_charAt_5068e_15
end STR
section STRG
variable {p : Program} {l : Launch} {e : Env} {R : Room} {s : State} {mm : MethodId} {args : Array Value} {below : List Frame} {meth : Method} {c : Code} {Q : State → Prop}
variable {G : AG} {nL n0 t0 pc : Nat} {as0 : List Nat} {ls st : List AV} {h : AH} {cc : ByteArray}
theorem KS.at {a0 a1 : Nat} {H : Heap} {locs : List Loc} (hK : KS G a0 a1 s) (hS : va_S (gA G) s.heap H locs) (av : List Value) : ∀ U : State, U.heap = H → s.WarmedH U.vm → PcJ G a0 a1 av av.toArray U := fun U hU hW => ⟨rfl, hK.warm hW (by rw [hU]; exact hS.1) (fun q h1 h2 => by rw [hU]; exact hS.2.1 q h1 h2)⟩
theorem str_len : ∀ i, i < 9 → am_str[i]? = some (am_str.getD i []) ∧ (am_str.getD i []).length = lenS.getD i 0 := by decide +kernel
theorem g_strl (hx : p.tables.exec = Jvm.exec) (hb : c.code = cc) (hml : c.maxLocals = nL) {own : String} (hown : s.vm.findClass own = some mm.cls) {w0 : Cond} (hts : ∀ w ∈ w0 :: WSg, w.before args s = true) {a0 a1 : Nat} (hK : KS G a0 a1 s) {i : Nat} {k n : Int} (hd : decode cc pc = .ok (.invokevirtual i, 3)) (hlk : (Cond.methodLink own i yJ0_length_8abf5).before args s = true)
    (hct : catL st ≤ 8) (hfr : 8 ≤ R.frames) (hlo : 400 ≤ R.locals) (hrc : h.length ≤ n0 + R.cells) (hrs : tot h ≤ t0 + R.slots) (he : strl k = some n) (hN : Gd G p l e R s mm args below meth c Q nL n0 t0 as0 (pc + 3) ls ((0, n) :: st) h) : Gd G p l e R s mm args below meth c Q nL n0 t0 as0 pc ls ((3, k) :: st) h := by
  intro as H locs cells slots lsA hE hR hS hL hO hc hs
  have hk : 0 ≤ k ∧ k < 9 := by rcases oks_hd hO with ⟨a, -⟩ | ⟨a, -⟩ | ⟨-, a⟩ | ⟨a, -⟩ <;> first | (cases a; done) | exact a | exact absurd a (by show ¬ 100 ≤ 3; omega)
  have hi : k.toNat < 9 := by omega
  have hn : n = ((lenS.getD k.toNat 0 : Nat) : Int) := by
    unfold strl at he
    rw [(str_len _ hi).1] at he
    have he : (if 0 ≤ k then some (Int.ofNat (am_str.getD k.toNat []).length) else none) = some n := he
    rw [if_pos hk.1, (str_len _ hi).2] at he
    exact (Option.some.inj he).symm
  have hnI : inI n := by rw [hn]; have := len_lt _ hi; constructor <;> omega
  have hkk := hN as H locs cells slots lsA hE hR hS hL (oks_cons (ok0I hnI) (oks_tl hO)) hc hs
  rw [List.map_cons, cv0, hn] at hkk
  rw [List.map_cons, cv3]
  have hw : ∀ w ∈ WSg, w.before args s = true := fun w h => hts w (List.mem_cons_of_mem _ h)
  refine W.callR (W.runV (As := []) (rest := st.map (cvv G as)) ⟨hx, hb, hml, hown, hts⟩ (c_len (a0 := a0) (a1 := a1) hi) ⟨callB_of 0 hts (gI (inc wj_len_code)) rfl rfl rfl (hw _ wj_ini_RJ0) hlk (by decide +kernel) ⟨by show 1 + 1 ≤ R.frames; omega, by show 8 + (1 + 11) + 20 ≤ R.locals; omega⟩, hw _ wj_len_inst, hw _ wj_len_sel⟩ ⟨blindJ _, vk_recv hK.2.2.2.2.2.1 hi hS, hK.at hS _⟩ rfl rfl hL.2.2.1 rfl (lv_room (by rw [catE]; exact hct)) hd ⟨by omega, by omega⟩) hkk
theorem g_strc (hx : p.tables.exec = Jvm.exec) (hb : c.code = cc) (hml : c.maxLocals = nL) {own : String} (hown : s.vm.findClass own = some mm.cls) {w0 : Cond} (hts : ∀ w ∈ w0 :: WSg, w.before args s = true) {a0 a1 : Nat} (hK : KS G a0 a1 s) {i : Nat} {k j n : Int} (hd : decode cc pc = .ok (.invokevirtual i, 3)) (hlk : (Cond.methodLink own i yJ0_charAt_5068e).before args s = true)
    (hct : catL st ≤ 8) (hfr : 8 ≤ R.frames) (hlo : 400 ≤ R.locals) (hrc : h.length ≤ n0 + R.cells) (hrs : tot h ≤ t0 + R.slots) (he : strc k j = some n) (hN : Gd G p l e R s mm args below meth c Q nL n0 t0 as0 (pc + 3) ls ((0, n) :: st) h) : Gd G p l e R s mm args below meth c Q nL n0 t0 as0 pc ls ((0, j) :: (3, k) :: st) h := by
  intro as H locs cells slots lsA hE hR hS hL hO hc hs
  have hk : 0 ≤ k ∧ k < 9 := by rcases oks_hd (oks_tl hO) with ⟨a, -⟩ | ⟨a, -⟩ | ⟨-, a⟩ | ⟨a, -⟩ <;> first | (cases a; done) | exact a | exact absurd a (by show ¬ 100 ≤ 3; omega)
  have hi : k.toNat < 9 := by omega
  have hjI := ok0 (oks_hd hO)
  unfold strc at he
  rw [(str_len _ hi).1] at he
  have he : (if 0 ≤ k ∧ 0 ≤ j then (am_str.getD k.toNat [])[j.toNat]? else none) = some n := he
  by_cases hq : 0 ≤ k ∧ 0 ≤ j
  · rw [if_pos hq] at he
    have hjl : j.toNat < lenS.getD k.toNat 0 := by rw [← (str_len _ hi).2]; exact (List.getElem?_eq_some_iff.mp he).1
    have hn : n = (am_str.getD k.toNat []).getD j.toNat 0 := by rw [gdE, he]; rfl
    have hnI : inI n := by
      have h0 : ∀ i, i < 9 → ∀ x ∈ am_str.getD i [], 0 ≤ x ∧ x < 65536 := by decide +kernel
      have := h0 _ hi n (List.mem_of_getElem? he)
      constructor <;> omega
    have hkk := hN as H locs cells slots lsA hE hR hS hL (oks_cons (ok0I hnI) (oks_tl (oks_tl hO))) hc hs
    rw [List.map_cons, cv0, hn] at hkk
    have hj : Int32.ofInt j = nI j.toNat := by
      show _ = Int32.ofInt ((j.toNat : Nat) : Int)
      congr 1; omega
    rw [List.map_cons, List.map_cons, cv3, cv0, hj]
    have hw : ∀ w ∈ WSg, w.before args s = true := fun w h => hts w (List.mem_cons_of_mem _ h)
    refine W.callR (W.runV (As := [.int (nI j.toNat)]) (rest := st.map (cvv G as)) ⟨hx, hb, hml, hown, hts⟩ (c_cha (a0 := a0) (a1 := a1) hi hjl) ⟨callB_of 1 hts (gI (inc wj_cha_code)) rfl rfl rfl (hw _ wj_ini_RJ0) hlk (by decide +kernel) ⟨by show 3 + 1 ≤ R.frames; omega, by show 8 + (2 + 11) + 64 ≤ R.locals; omega⟩, hw _ wj_cha_inst, hw _ wj_cha_sel⟩ ⟨blindJ _, vk_recv hK.2.2.2.2.2.1 hi hS, hK.at hS _⟩ rfl rfl hL.2.2.1 rfl (lv_room (by rw [catE]; exact hct)) hd ⟨by omega, by omega⟩) hkk
  · rw [if_neg hq] at he; cases he
end STRG
