/-! The law's loop. -/
def AllOps (scr : List Int) : Prop := (∀ (a : Int), inI a → Op scr m_Ss_write m_Mo_write [(0, a)]) ∧ (Op scr m_Ss_erase m_Mo_erase []) ∧ (Op scr m_Ss_fault m_Mo_fault []) ∧ (Op scr m_Ss_board m_Mo_board []) ∧ (∀ (a : Int) (b : Int), inI a → inI b → Op scr m_Ss_house m_Mo_house [(0, a), (0, b)]) ∧ (∀ (a : Int) (b : Int), inI a → inI b → Op scr m_Ss_as m_Mo_as [(0, a), (0, b)]) ∧ (∀ (a : Int), inI a → Op scr m_Ss_move m_Mo_move [(0, a)]) ∧ (∀ (a : Int) (b : Int), inI a → inI b → Op scr m_Ss_drop m_Mo_drop [(0, a), (0, b)]) ∧ (∀ (a : Int) (b : Int), inI a → inI b → Op scr m_Ss_swap m_Mo_swap [(0, a), (0, b)]) ∧ (Op scr m_Ss_undo m_Mo_undo []) ∧ (∀ (a : Int), inI a → Op scr m_Ss_keep m_Mo_keep [(0, a)]) ∧ (∀ (a : Int), inI a → Op scr m_Ss_back m_Mo_back [(0, a)]) ∧ (∀ (a : Int), inI a → Op scr m_Ss_brings m_Mo_brings [(0, a)]) ∧ (∀ (a : Int) (b : Int), inI a → inI b → Op scr m_Ss_best m_Mo_best [(0, a), (0, b)]) ∧ (∀ (a : Int), inI a → Op scr m_Ss_rash m_Mo_rash [(0, a)]) ∧ (Op scr m_Ss_over m_Mo_over []) ∧ (∀ (a : Int), inI a → Op scr m_Ss_gift m_Mo_gift [(0, a)]) ∧ (∀ (a : Int) (b : Int), inI a → inI b → Op scr m_Ss_luck m_Mo_luck [(0, a), (0, b)]) ∧ (∀ (a : Int) (b : Int) (c : Int) (d : Int), inI a → inI b → inI c → inI d → Op scr m_Ss_seen m_Mo_seen [(0, a), (0, b), (0, c), (0, d)]) ∧ (Op scr m_Ss_forget m_Mo_forget []) ∧ (Op scr m_Ss_kinds m_Mo_kinds []) ∧ (Op scr m_Ss_ask m_Mo_ask []) ∧ (∀ (a : Int) (b : Int), inI a → inI b → Op scr m_Ss_box m_Mo_box [(0, a), (0, b)]) ∧ (∀ (a : Int) (b : Int) (c : Int), inI a → inI b → inI c → Op scr m_Ss_put m_Mo_put [(0, a), (0, b), (0, c)]) ∧ (∀ (a : Int) (b : Int), inI a → inI b → Op scr m_Ss_take m_Mo_take [(0, a), (0, b)]) ∧ (∀ (a : Int), inI a → Op scr m_Ss_spill m_Mo_spill [(0, a)]) ∧ (∀ (a : Int) (b : Int), inI a → inI b → Op scr m_Ss_deep m_Mo_deep [(0, a), (0, b)]) ∧ (∀ (a : Int) (b : Int), inI a → inI b → Op scr m_Ss_alike m_Mo_alike [(0, a), (0, b)]) ∧ (∀ (a : Int), inI a → Op scr m_Ss_lose m_Mo_lose [(0, a)]) ∧ (∀ (a : Int), inI a → Op scr m_Ss_count m_Mo_count [(0, a)])
section LOOP
variable {scr : List Int}
set_option maxRecDepth 20000 in
set_option maxHeartbeats 4000000 in
theorem law_step (O : AllOps scr) (hL : scr.length ≤ 2560) (hin : ∀ x ∈ scr, inI x) {i : Int} {h : AH} (h0 : 0 ≤ i) (h1 : i + 5 ≤ (scr.length : Int)) (I : Inv scr h) : ∃ h2 : AH, Inv scr h2 ∧ run 60 m_La_law 18 [(126, 0), (106, 2), (107, 108), (0, i)] [] h = run 60 m_La_law 18 [(126, 0), (106, 2), (107, 108), (0, i + 5)] [] h2 := by
  have hs : h[0]? = some (26, scr) := I.2.1
  have hg : ∀ k : Nat, k < 5 → inI (scr.getD (i.toNat + k) 0) := by
    intro k hk
    refine hin _ ?_
    rw [gdE, List.getElem?_eq_getElem (by omega)]
    exact List.getElem_mem _
  have R : ∀ (k : Nat), 1 ≤ k → k < 5 → ∀ g : AH, g[0]? = some (26, scr) → rda 26 g 0 (a_add i (k : Int)) = some (scr.getD (i.toNat + k) 0) := by
    intro k k1 k5 g hg
    rw [add_id (by omega) (by omega), show (0 : Int) = ((0 : Nat) : Int) from rfl, rda_i hg (by omega), show (i + (k : Int)).toNat = i.toNat + k by omega]
    exact getD_some (by omega)
  have R0 : rda 26 h 0 i = some (scr.getD i.toNat 0) := by
    rw [show (0 : Int) = ((0 : Nat) : Int) from rfl, rda_i hs h0]
    exact getD_some (by omega)
  have N : ∀ g : AH, run 60 m_La_law 928 [(126, 0), (106, 2), (107, 108), (0, i)] [] g = run 60 m_La_law 18 [(126, 0), (106, 2), (107, 108), (0, i + 5)] [] g := by
    intro g
    rw [k_La_law_928, add_id (by omega) (by omega)]
  have R1 : ∀ g : AH, g[0]? = some (26, scr) → rda 26 g 0 (a_add i 1) = some (scr.getD (i.toNat + 1) 0) := R 1 (by omega) (by omega)
  have R2 : ∀ g : AH, g[0]? = some (26, scr) → rda 26 g 0 (a_add i 2) = some (scr.getD (i.toNat + 2) 0) := R 2 (by omega) (by omega)
  have R3 : ∀ g : AH, g[0]? = some (26, scr) → rda 26 g 0 (a_add i 3) = some (scr.getD (i.toNat + 3) 0) := R 3 (by omega) (by omega)
  have R4 : ∀ g : AH, g[0]? = some (26, scr) → rda 26 g 0 (a_add i 4) = some (scr.getD (i.toNat + 4) 0) := R 4 (by omega) (by omega)
  have g1 := hg 1 (by omega)
  have g2 := hg 2 (by omega)
  have g3 := hg 3 (by omega)
  have g4 := hg 4 (by omega)
  clear R hg
  generalize scr.getD (i.toNat + 1) 0 = a1 at R1 g1
  generalize scr.getD (i.toNat + 2) 0 = a2 at R2 g2
  generalize scr.getD (i.toNat + 3) 0 = a3 at R3 g3
  generalize scr.getD (i.toNat + 4) 0 = a4 at R4 g4
  obtain ⟨o0, o1, o2, o3, o4, o5, o6, o7, o8, o9, o10, o11, o12, o13, o14, o15, o16, o17, o18, o19, o20, o21, o22, o23, o24, o25, o26, o27, o28, o29⟩ := O
  rw [k_La_law_18, show am_cl 26 h 0 = some scr from cl_n (n := 0) hs, Option.bind_some, show Int.ofNat scr.length = (scr.length : Int) from rfl, sub_id (by omega) (by omega), if_neg (by omega), R0, Option.bind_some]
  generalize a_and (scr.getD i.toNat 0) 31 = y
  by_cases e0 : y = 0
  · obtain ⟨v, h1, h2, c1, c2, c3, c4⟩ := o0 a1 g1 h I
    refine ⟨h2, c4, ?_⟩
    rw [if_pos e0]
    simp only [R1 h hs, R1 h1 c2, c1, c3, Option.bind_some, ↓reduceIte, N]
  rw [if_neg e0]
  by_cases e1 : y = 1
  · obtain ⟨v, h1, h2, c1, c2, c3, c4⟩ := o1 h I
    refine ⟨h2, c4, ?_⟩
    rw [if_pos e1]
    simp only [c1, c3, Option.bind_some, ↓reduceIte, N]
  rw [if_neg e1]
  by_cases e2 : y = 2
  · obtain ⟨v, h1, h2, c1, c2, c3, c4⟩ := o2 h I
    refine ⟨h2, c4, ?_⟩
    rw [if_pos e2]
    simp only [c1, c3, Option.bind_some, ↓reduceIte, N]
  rw [if_neg e2]
  by_cases e3 : y = 3
  · obtain ⟨v, h1, h2, c1, c2, c3, c4⟩ := o3 h I
    refine ⟨h2, c4, ?_⟩
    rw [if_pos e3]
    simp only [c1, c3, Option.bind_some, ↓reduceIte, N]
  rw [if_neg e3]
  by_cases e4 : y = 4
  · obtain ⟨v, h1, h2, c1, c2, c3, c4⟩ := o4 a1 a2 g1 g2 h I
    refine ⟨h2, c4, ?_⟩
    rw [if_pos e4]
    simp only [R1 h hs, R1 h1 c2, R2 h hs, R2 h1 c2, c1, c3, Option.bind_some, ↓reduceIte, N]
  rw [if_neg e4]
  by_cases e5 : y = 5
  · obtain ⟨v, h1, h2, c1, c2, c3, c4⟩ := o5 a1 a2 g1 g2 h I
    refine ⟨h2, c4, ?_⟩
    rw [if_pos e5]
    simp only [R1 h hs, R1 h1 c2, R2 h hs, R2 h1 c2, c1, c3, Option.bind_some, ↓reduceIte, N]
  rw [if_neg e5]
  by_cases e6 : y = 6
  · obtain ⟨v, h1, h2, c1, c2, c3, c4⟩ := o6 a1 g1 h I
    refine ⟨h2, c4, ?_⟩
    rw [if_pos e6]
    simp only [R1 h hs, R1 h1 c2, c1, c3, Option.bind_some, ↓reduceIte, N]
  rw [if_neg e6]
  by_cases e7 : y = 7
  · obtain ⟨v, h1, h2, c1, c2, c3, c4⟩ := o7 a1 a2 g1 g2 h I
    refine ⟨h2, c4, ?_⟩
    rw [if_pos e7]
    simp only [R1 h hs, R1 h1 c2, R2 h hs, R2 h1 c2, c1, c3, Option.bind_some, ↓reduceIte, N]
  rw [if_neg e7]
  by_cases e8 : y = 8
  · obtain ⟨v, h1, h2, c1, c2, c3, c4⟩ := o8 a1 a2 g1 g2 h I
    refine ⟨h2, c4, ?_⟩
    rw [if_pos e8]
    simp only [R1 h hs, R1 h1 c2, R2 h hs, R2 h1 c2, c1, c3, Option.bind_some, ↓reduceIte, N]
  rw [if_neg e8]
  by_cases e9 : y = 9
  · obtain ⟨v, h1, h2, c1, c2, c3, c4⟩ := o9 h I
    refine ⟨h2, c4, ?_⟩
    rw [if_pos e9]
    simp only [c1, c3, Option.bind_some, ↓reduceIte, N]
  rw [if_neg e9]
  by_cases e10 : y = 10
  · obtain ⟨v, h1, h2, c1, c2, c3, c4⟩ := o10 a1 g1 h I
    refine ⟨h2, c4, ?_⟩
    rw [if_pos e10]
    simp only [R1 h hs, R1 h1 c2, c1, c3, Option.bind_some, ↓reduceIte, N]
  rw [if_neg e10]
  by_cases e11 : y = 11
  · obtain ⟨v, h1, h2, c1, c2, c3, c4⟩ := o11 a1 g1 h I
    refine ⟨h2, c4, ?_⟩
    rw [if_pos e11]
    simp only [R1 h hs, R1 h1 c2, c1, c3, Option.bind_some, ↓reduceIte, N]
  rw [if_neg e11]
  by_cases e12 : y = 12
  · obtain ⟨v, h1, h2, c1, c2, c3, c4⟩ := o12 a1 g1 h I
    refine ⟨h2, c4, ?_⟩
    rw [if_pos e12]
    simp only [R1 h hs, R1 h1 c2, c1, c3, Option.bind_some, ↓reduceIte, N]
  rw [if_neg e12]
  by_cases e13 : y = 13
  · obtain ⟨v, h1, h2, c1, c2, c3, c4⟩ := o13 a1 a2 g1 g2 h I
    refine ⟨h2, c4, ?_⟩
    rw [if_pos e13]
    simp only [R1 h hs, R1 h1 c2, R2 h hs, R2 h1 c2, c1, c3, Option.bind_some, ↓reduceIte, N]
  rw [if_neg e13]
  by_cases e14 : y = 14
  · obtain ⟨v, h1, h2, c1, c2, c3, c4⟩ := o14 a1 g1 h I
    refine ⟨h2, c4, ?_⟩
    rw [if_pos e14]
    simp only [R1 h hs, R1 h1 c2, c1, c3, Option.bind_some, ↓reduceIte, N]
  rw [if_neg e14]
  by_cases e15 : y = 15
  · obtain ⟨v, h1, h2, c1, c2, c3, c4⟩ := o15 h I
    refine ⟨h2, c4, ?_⟩
    rw [if_pos e15]
    simp only [c1, c3, Option.bind_some, ↓reduceIte, N]
  rw [if_neg e15]
  by_cases e16 : y = 16
  · obtain ⟨v, h1, h2, c1, c2, c3, c4⟩ := o16 a1 g1 h I
    refine ⟨h2, c4, ?_⟩
    rw [if_pos e16]
    simp only [R1 h hs, R1 h1 c2, c1, c3, Option.bind_some, ↓reduceIte, N]
  rw [if_neg e16]
  by_cases e17 : y = 17
  · obtain ⟨v, h1, h2, c1, c2, c3, c4⟩ := o17 a1 a2 g1 g2 h I
    refine ⟨h2, c4, ?_⟩
    rw [if_pos e17]
    simp only [R1 h hs, R1 h1 c2, R2 h hs, R2 h1 c2, c1, c3, Option.bind_some, ↓reduceIte, N]
  rw [if_neg e17]
  by_cases e18 : y = 18
  · obtain ⟨v, h1, h2, c1, c2, c3, c4⟩ := o18 a1 a2 a3 a4 g1 g2 g3 g4 h I
    refine ⟨h2, c4, ?_⟩
    rw [if_pos e18]
    simp only [R1 h hs, R1 h1 c2, R2 h hs, R2 h1 c2, R3 h hs, R3 h1 c2, R4 h hs, R4 h1 c2, c1, c3, Option.bind_some, ↓reduceIte, N]
  rw [if_neg e18]
  by_cases e19 : y = 19
  · obtain ⟨v, h1, h2, c1, c2, c3, c4⟩ := o19 h I
    refine ⟨h2, c4, ?_⟩
    rw [if_pos e19]
    simp only [c1, c3, Option.bind_some, ↓reduceIte, N]
  rw [if_neg e19]
  by_cases e20 : y = 20
  · obtain ⟨v, h1, h2, c1, c2, c3, c4⟩ := o20 h I
    refine ⟨h2, c4, ?_⟩
    rw [if_pos e20]
    simp only [c1, c3, Option.bind_some, ↓reduceIte, N]
  rw [if_neg e20]
  by_cases e21 : y = 21
  · obtain ⟨v, h1, h2, c1, c2, c3, c4⟩ := o21 h I
    refine ⟨h2, c4, ?_⟩
    rw [if_pos e21]
    simp only [c1, c3, Option.bind_some, ↓reduceIte, N]
  rw [if_neg e21]
  by_cases e22 : y = 22
  · obtain ⟨v, h1, h2, c1, c2, c3, c4⟩ := o22 a1 a2 g1 g2 h I
    refine ⟨h2, c4, ?_⟩
    rw [if_pos e22]
    simp only [R1 h hs, R1 h1 c2, R2 h hs, R2 h1 c2, c1, c3, Option.bind_some, ↓reduceIte, N]
  rw [if_neg e22]
  by_cases e23 : y = 23
  · obtain ⟨v, h1, h2, c1, c2, c3, c4⟩ := o23 a1 a2 a3 g1 g2 g3 h I
    refine ⟨h2, c4, ?_⟩
    rw [if_pos e23]
    simp only [R1 h hs, R1 h1 c2, R2 h hs, R2 h1 c2, R3 h hs, R3 h1 c2, c1, c3, Option.bind_some, ↓reduceIte, N]
  rw [if_neg e23]
  by_cases e24 : y = 24
  · obtain ⟨v, h1, h2, c1, c2, c3, c4⟩ := o24 a1 a2 g1 g2 h I
    refine ⟨h2, c4, ?_⟩
    rw [if_pos e24]
    simp only [R1 h hs, R1 h1 c2, R2 h hs, R2 h1 c2, c1, c3, Option.bind_some, ↓reduceIte, N]
  rw [if_neg e24]
  by_cases e25 : y = 25
  · obtain ⟨v, h1, h2, c1, c2, c3, c4⟩ := o25 a1 g1 h I
    refine ⟨h2, c4, ?_⟩
    rw [if_pos e25]
    simp only [R1 h hs, R1 h1 c2, c1, c3, Option.bind_some, ↓reduceIte, N]
  rw [if_neg e25]
  by_cases e26 : y = 26
  · obtain ⟨v, h1, h2, c1, c2, c3, c4⟩ := o26 a1 a2 g1 g2 h I
    refine ⟨h2, c4, ?_⟩
    rw [if_pos e26]
    simp only [R1 h hs, R1 h1 c2, R2 h hs, R2 h1 c2, c1, c3, Option.bind_some, ↓reduceIte, N]
  rw [if_neg e26]
  by_cases e27 : y = 27
  · obtain ⟨v, h1, h2, c1, c2, c3, c4⟩ := o27 a1 a2 g1 g2 h I
    refine ⟨h2, c4, ?_⟩
    rw [if_pos e27]
    simp only [R1 h hs, R1 h1 c2, R2 h hs, R2 h1 c2, c1, c3, Option.bind_some, ↓reduceIte, N]
  rw [if_neg e27]
  by_cases e28 : y = 28
  · obtain ⟨v, h1, h2, c1, c2, c3, c4⟩ := o28 a1 g1 h I
    refine ⟨h2, c4, ?_⟩
    rw [if_pos e28]
    simp only [R1 h hs, R1 h1 c2, c1, c3, Option.bind_some, ↓reduceIte, N]
  rw [if_neg e28]
  by_cases e29 : y = 29
  · obtain ⟨v, h1, h2, c1, c2, c3, c4⟩ := o29 a1 g1 h I
    refine ⟨h2, c4, ?_⟩
    rw [if_pos e29]
    simp only [R1 h hs, R1 h1 c2, c1, c3, Option.bind_some, ↓reduceIte, N]
  rw [if_neg e29]
  exact ⟨h, I, N h⟩
theorem law_loop (O : AllOps scr) (hL : scr.length ≤ 2560) (hin : ∀ x ∈ scr, inI x) : ∀ (n : Nat) (i : Int) (h : AH), 0 ≤ i → (scr.length : Int) < i + 5 + 5 * (n : Int) → i ≤ 3000 → Inv scr h → ∃ h' : AH, Inv scr h' ∧ run 60 m_La_law 18 [(126, 0), (106, 2), (107, 108), (0, i)] [] h = some (1, h') := by
  have stop : ∀ (i : Int) (h : AH), 0 ≤ i → (scr.length : Int) < i + 5 → i ≤ 3000 → Inv scr h → ∃ h' : AH, Inv scr h' ∧ run 60 m_La_law 18 [(126, 0), (106, 2), (107, 108), (0, i)] [] h = some (1, h') := by
    intro i h h0 h1 h2 I
    refine ⟨h, I, ?_⟩
    rw [k_La_law_18, show am_cl 26 h 0 = some scr from cl_n (n := 0) I.2.1, Option.bind_some, show Int.ofNat scr.length = (scr.length : Int) from rfl, sub_id (by omega) (by omega), if_pos (by omega)]
  intro n
  induction n with
  | zero => intro i h h0 h1 h2 I; exact stop i h h0 (by omega) h2 I
  | succ n ih =>
    intro i h h0 h1 h2 I
    by_cases e : (scr.length : Int) < i + 5
    · exact stop i h h0 e h2 I
    · obtain ⟨g, I2, e2⟩ := law_step O hL hin h0 (by omega) I
      obtain ⟨h', I3, e3⟩ := ih (i + 5) g (by omega) (by omega) (by omega) I2
      exact ⟨h', I3, e2.trans e3⟩
end LOOP
theorem tot_le : ∀ l : AH, (∀ (j : Nat) (c : Nat × List Int), l[j]? = some c → c.2.length ≤ 200) → tot l ≤ 200 * l.length := by
  intro l
  induction l with
  | nil => intro _; exact Nat.le_refl _
  | cons a l ih =>
    intro H
    have h1 := H 0 a rfl
    have h2 := ih (fun j c e => H (j + 1) c e)
    show (a.2.length + (l.map (fun c => c.2.length)).sum) ≤ 200 * (l.length + 1)
    have h2 : (l.map (fun c => c.2.length)).sum ≤ 200 * l.length := h2
    omega
theorem bd_small {h : AH} {n : Nat} {B : Bo} (H : BdH h n B) (O : BoOK B) {j : Nat} (a : n ≤ j) (b : j < n + 4) {c : Nat × List Int} (e : h[j]? = some c) : c.2.length ≤ 200 := by
  rcases (show j = n ∨ j = n + 1 ∨ j = n + 2 ∨ j = n + 3 by omega) with rfl | rfl | rfl | rfl
  · rw [H.c0] at e; cases e; exact (by decide : 6 ≤ 200)
  · rw [H.c1] at e; cases e; show B.ks.length ≤ 200; rw [O.kl]; omega
  · rw [H.c2] at e; cases e; show B.ss.length ≤ 200; rw [O.sl]; omega
  · rw [H.c3] at e; cases e; exact (by decide : 2 ≤ 200)
theorem one_small {h : AH} {n : Nat} {t : Nat} {xs : List Int} {c : Nat × List Int} (H : h[n]? = some (t, xs)) (l : xs.length ≤ 200) (e : h[n]? = some c) : c.2.length ≤ 200 := by rw [H] at e; cases e; exact l
theorem LnI.small {h : AH} {n t l : Nat} (H : LnI h n t l) (hl : l ≤ 200) {c : Nat × List Int} (e : h[n]? = some c) : c.2.length ≤ 200 := by
  obtain ⟨xs, a, b⟩ := H
  exact one_small a (by omega) e
theorem row_len' {B : Bo} (O : BoOK B) : (row B).length ≤ 200 := by rw [row_len O]; omega
theorem inv_small {scr : List Int} {h : AH} (I : Inv scr h) {j : Nat} (hj : 1 ≤ j) {c : Nat × List Int} (e : h[j]? = some c) : c.2.length ≤ 200 := by
  obtain ⟨l, s, o, le, un, ke, ma, B, C, iS, ⟨pl, be, to, va, br, la, iM⟩, ⟨n1, n2, n3⟩, ⟨T, T', D, t1, t2, t3, t4, t5⟩, ⟨u0, u1, ps, Q, C', R, p1, p2, p3, p4, p5, p6, p7⟩, ⟨k0, k1, K0, K1, C0, C1, R', k2, k3, k4, k5, k6, k7, k8, k9, k10⟩, ⟨l0, l1, L, x1, x2, x3, x4, cl, st, en, x5⟩, ⟨⟨ch, f1⟩, f2, f3⟩, ⟨w1, w2, w3, w4, w5, w6, w7, w8, w9, w10⟩, ⟨m0, m1, s1, s2, s3, s4, s5, y1, y2, y3, y4, y5, y6, y7⟩, ⟨b1, b2, r, sz, t, n, w, v, ro, ho, wh, tg, li, b3, b4, b5, b6, b7, b8, b9, b10⟩⟩ := I
  have hj2 : j < 130 := by have := gtl e; omega
  by_cases a1 : j < 3
  · rcases (show j = 1 ∨ j = 2 by omega) with rfl | rfl
    · exact one_small o (by decide) e
    · exact one_small iS (by simp) e
  by_cases a2 : j < 7
  · exact bd_small t1 t4.1.1 (by omega) (by omega) e
  by_cases a3 : j < 11
  · exact bd_small t2 t5 (by omega) (by omega) e
  by_cases a4 : j < 15
  · exact bd_small n1 n3.1.1 (by omega) (by omega) e
  by_cases a5 : j < 22
  · rcases (show j = 15 ∨ j = 16 ∨ j = 17 ∨ j = 18 ∨ j = 19 ∨ j = 20 ∨ j = 21 by omega) with rfl | rfl | rfl | rfl | rfl | rfl | rfl
    · exact one_small p1 (by simp) e
    · exact one_small k2 (by simp) e
    · exact one_small k3 (by simp) e
    · exact one_small x5 (by simp) e
    · exact one_small x1 (by omega) e
    · exact one_small f1 (by simp) e
    · exact one_small f2 (by simp) e
  by_cases a6 : j < 46
  · obtain ⟨D, g1, g2⟩ := f3 ((j - 22) / 4) (by omega)
    exact bd_small g1 g2 (by omega) (by omega) e
  by_cases a7 : j < 53
  · rcases (show j = 46 ∨ j = 47 ∨ j = 48 ∨ j = 49 ∨ j = 50 ∨ j = 51 ∨ j = 52 by omega) with rfl | rfl | rfl | rfl | rfl | rfl | rfl
    · exact one_small y1 (by simp) e
    · exact one_small y2 (by rw [y7.1]; omega) e
    · exact one_small y3 (by rw [y7.2.1]; omega) e
    · exact one_small y4 (by rw [y7.2.2.1]; omega) e
    · exact one_small y5 (by rw [y7.2.2.2.1]; omega) e
    · exact one_small b1 (by simp) e
    · exact one_small b2 (by simp) e
  by_cases a8 : j < 68
  · obtain ⟨g1, g2, g3⟩ := b3 ((j - 53) / 3) (by omega)
    have q := b9.1 ((j - 53) / 3) (by omega)
    rcases (show j = 53 + 3 * ((j - 53) / 3) ∨ j = 54 + 3 * ((j - 53) / 3) ∨ j = 55 + 3 * ((j - 53) / 3) by omega) with z | z | z
    · rw [← z] at g1; exact one_small g1 (by simp) e
    · rw [← z] at g2; exact one_small g2 (by rw [q.2.2.2.1]; omega) e
    · rw [← z] at g3; exact one_small g3 (by rw [q.2.2.2.2.1]; omega) e
  by_cases a9 : j < 100
  · obtain ⟨D, g1, g2⟩ := p6 ((j - 68) / 4) (by omega)
    exact bd_small g1 g2 (by omega) (by omega) e
  by_cases a10 : j < 104
  · exact bd_small k4 k6 (by omega) (by omega) e
  by_cases a11 : j < 108
  · exact bd_small k5 k7 (by omega) (by omega) e
  rcases (show j = 108 ∨ j = 109 ∨ j = 110 ∨ j = 111 ∨ j = 112 ∨ j = 113 ∨ j = 114 ∨ j = 115 ∨ j = 116 ∨ j = 117 ∨ j = 118 ∨ j = 119 ∨ j = 120 ∨ j = 121 ∨ j = 122 ∨ j = 123 ∨ j = 124 ∨ j = 125 ∨ j = 126 ∨ j = 127 ∨ j = 128 ∨ j = 129 by omega) with rfl | rfl | rfl | rfl | rfl | rfl | rfl | rfl | rfl | rfl | rfl | rfl | rfl | rfl | rfl | rfl | rfl | rfl | rfl | rfl | rfl | rfl
  · exact one_small iM (by simp [hM]) e
  · exact one_small n2 (row_len' n3.2.1.1) e
  · exact one_small t3 (row_len' t4.2.1.1) e
  · exact one_small x2 (by omega) e
  · exact w1.small (by omega) e
  · exact one_small p2 (by omega) e
  · exact one_small k8 (by omega) e
  · exact w2.small (by omega) e
  · exact w3.small (by omega) e
  · exact w4.small (by omega) e
  · exact w5.small (by omega) e
  · exact w6.small (by omega) e
  · exact w7.small (by omega) e
  · exact w8.small (by omega) e
  · exact one_small y6 (by rw [y7.2.2.2.2.1]; omega) e
  · exact one_small b4 (by rw [b10.1]; omega) e
  · exact one_small b5 (by rw [b10.2.1]; omega) e
  · exact one_small b6 (by rw [b10.2.2.1]; omega) e
  · exact one_small b7 (by rw [b10.2.2.2.1]; omega) e
  · exact one_small b8 (by rw [b10.2.2.2.2.1]; omega) e
  · exact w9.small (by omega) e
  · exact w10.small (by omega) e
theorem inv_tot {scr : List Int} {h : AH} (I : Inv scr h) : h.length ≤ 600002 ∧ tot h ≤ tot (h0 scr) + 7302250 := by
  have hl : h.length = 130 := I.1
  refine ⟨by omega, ?_⟩
  cases h with
  | nil => simp at hl
  | cons a l =>
    have e : some a = some (26, scr) := I.2.1
    have ea : a = (26, scr) := Option.some.inj e
    have h1 := tot_le l (fun j c e => inv_small (j := j + 1) I (by omega) e)
    have hl2 : l.length = 129 := by simpa using hl
    show a.2.length + tot l ≤ scr.length + (5 + 0) + 7302250
    rw [ea]
    show scr.length + tot l ≤ _
    omega
theorem law_of (OA : ∀ scr : List Int, AllOps scr) : LawRun := by
  intro scr hL hin
  obtain ⟨h', I, e⟩ := law_loop (OA scr) hL hin 600 0 (hhA scr) (by omega) (by omega) (by omega) (inv_first scr)
  refine ⟨h', ?_, inv_tot I⟩
  have e1 : cal 60 m_La_law [(126, 0)] (h0 scr) = run 60 m_La_law 0 [(126, 0), (9, 0), (9, 0), (9, 0)] [] (h0 scr) := by
    unfold cal
    rw [show entOK m_La_law [(126, 0)] = true from rfl]
    rfl
  rw [← e1, k_La_law]
  show (cal (55 + 4) m_Ss_init [(106, 2)] (SS scr (am_ini 6) [])).bind _ = _
  rw [c_ssInit, Option.bind_some]
  show (cal (57 + 2) m_Mo_init [(107, Int.ofNat (List.length (ssH scr)))] (ssH scr ++ [(7, am_ini 7)])).bind _ = _
  rw [m_moInit, Option.bind_some]
  exact e
