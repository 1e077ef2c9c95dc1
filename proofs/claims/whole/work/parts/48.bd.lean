/-! The class's boards: copied, given to. -/
section CB
variable {h : AH} {n n' d : Nat} {B C : Bo}
theorem cpy10 {xs ys : List Int} (hx : xs.length = 10) (hy : ys.length = 10) : a_cpy xs ys 10 = xs := by
  unfold a_cpy
  rw [List.take_of_length_le (by rw [hx]; decide), List.drop_eq_nil_of_le (by rw [hy]; decide), List.append_nil]
theorem wrcp_n {h : AH} {a b : Nat} {xs ys : List Int} (e1 : h[a]? = some (20, xs)) (e2 : h[b]? = some (20, ys)) (hx : xs.length = 10) (hy : ys.length = 10) : wrcp h (a : Int) (b : Int) 10 = some (h.set b (20, xs)) := by
  unfold wrcp
  rw [cl_n e1, Option.bind_some, cl_n e2, Option.bind_some, if_pos ⟨by decide, by rw [hx]; decide, by rw [hy]; decide⟩, cpy10 hx hy, Int.toNat_natCast]
def Bo.setKs (B : Bo) (xs : List Int) : Bo := mkB xs B.ss B.b0 B.b1 B.w B.t B.m
def Bo.setSs (B : Bo) (xs : List Int) : Bo := mkB B.ks xs B.b0 B.b1 B.w B.t B.m
theorem c_copy (H : BdH h n B) (H' : BdH h n' C) (O : BoOK B) (O' : BoOK C) (hn : n + 4 ≤ n' ∨ n' + 4 ≤ n) : cal (d + 1) m_Bd_copy [(100, (n : Int)), (100, (n' : Int))] h = some (0, setB h n C) := by
  have hl := H.lt
  have F : ∀ D : Bo, BdH (setB h n D) n' C := fun D => bdH_ne hl H' (by omega)
  have G : ∀ D : Bo, BdH (setB h n D) n D := fun D => bdH_set hl
  rw [k_Bd_copy, H'.rk, Option.bind_some, H.rk, Option.bind_some, wrcp_n H'.c1 H.c1 O'.kl O.kl, Option.bind_some, set1 (C := B.setKs C.ks) H C.ks rfl rfl rfl rfl rfl]
  rw [(F _).rs, Option.bind_some, (G _).rs, Option.bind_some, wrcp_n (F (B.setKs C.ks)).c2 (G (B.setKs C.ks)).c2 O'.sl (show (B.setKs C.ks).ss.length = 10 from O.sl), Option.bind_some, set2 (C := (B.setKs C.ks).setSs C.ss) (G (B.setKs C.ks)) C.ss rfl rfl rfl rfl rfl, setB_setB hl]
  rw [(G _).rb, Option.bind_some, (F _).rb, Option.bind_some, (F _).rB (Or.inl rfl), Option.bind_some, (G _).wB (Or.inl rfl), Option.bind_some, setB_setB hl]
  rw [(G _).rb, Option.bind_some, (F _).rb, Option.bind_some, (F _).rB (Or.inr rfl), Option.bind_some, (G _).wB (Or.inr rfl), Option.bind_some, setB_setB hl]
  rw [(F _).rw, Option.bind_some, (G _).wW, Option.bind_some, setB_setB hl]
  rw [(F _).rt, Option.bind_some, (G _).wT, Option.bind_some, setB_setB hl]
  rw [(F _).rm, Option.bind_some, (G _).wM, Option.bind_some, setB_setB hl]
  rfl
theorem c_lead (H : BdH h n B) (O : BoOK B) (s : Int) : cal (d + 1) m_Bd_lead [(100, (n : Int)), (0, s)] h = some (if s = 0 then B.b0 - B.b1 else B.b1 - B.b0, h) := by
  have := O.p0; have := O.p1; have := O.q0; have := O.q1
  rw [k_Bd_lead]
  by_cases e : s = 0
  · rw [if_pos e, if_pos e, H.rb, Option.bind_some, H.rB (Or.inl rfl), Option.bind_some, Option.bind_some, H.rB (Or.inr rfl), Option.bind_some]
    show some (a_sub B.b0 B.b1, h) = _
    rw [sub_id (by omega) (by omega)]
  · rw [if_neg e, if_neg e, H.rb, Option.bind_some, H.rB (Or.inr rfl), Option.bind_some, Option.bind_some, H.rB (Or.inl rfl), Option.bind_some]
    show some (a_sub B.b1 B.b0, h) = _
    rw [sub_id (by omega) (by omega)]
theorem c_turn (H : BdH h n B) : cal (d + 1) m_Bd_turn [(100, (n : Int))] h = some (B.t, h) := by rw [k_Bd_turn, H.rt]; rfl
theorem c_moves (H : BdH h n B) : cal (d + 1) m_Bd_moves [(100, (n : Int))] h = some (B.m, h) := by rw [k_Bd_moves, H.rm]; rfl
theorem c_barn (H : BdH h n B) {s : Int} (hs : s = 0 ∨ s = 1) : cal (d + 1) m_Bd_barn [(100, (n : Int)), (0, s)] h = some (B.bn s, h) := by rw [k_Bd_barn, H.rb, Option.bind_some, H.rB hs]; rfl
theorem c_give (H : BdH h n B) (O : BoOK B) {i v : Int} (h0 : 0 ≤ i) (h1 : i < 10) (v0 : 0 ≤ v) (v1 : v ≤ 1000) : cal (d + 1) m_Bd_give [(100, (n : Int)), (0, i), (0, v)] h = some (0, setB h n (B.setS i (if 99 < B.si i + v then 99 else B.si i + v))) := by
  have hs := si_r O h0 h1
  rw [k_Bd_give, H.rs, Option.bind_some, Option.bind_some, H.sA O h0 h1, Option.bind_some]
  show (wra 20 h ((n + 2 : Nat) : Int) i (a_min (a_add (B.si i) v) 99)).bind _ = _
  rw [add_id (by omega) (by omega), a_min_def, H.wS O h0 h1]
  rfl
end CB
