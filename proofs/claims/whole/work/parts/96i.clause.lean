/-! A clause, on the class's side. -/
def loF (w : Int) : Int := if w = 5 then 2 else 0
def hiF (w W : Int) : Int := if w = 5 then 5 else if w = 7 ∨ w = 8 then 1 else 2 * W - 1
def tE (L : List Int) (le : Int) (p : Nat) : Nat := te L le (sk L le p)
def clF (L : List Int) (le : Int) (p : Nat) (W : Int) : Bool × Nat × Int × Int × Int :=
  if cwd L (sk L le p) (tE L le p) = -1 then (false, sk L le p, 0, 0, 0)
  else if rdN L le (sk L le (tE L le p)) (tE L le (tE L le p)) (loF (cwd L (sk L le p) (tE L le p))) (hiF (cwd L (sk L le p) (tE L le p)) W) = -1 then (false, sk L le (tE L le p), 0, 0, 0)
  else if cwd L (sk L le p) (tE L le p) = 6 ∨ cwd L (sk L le p) (tE L le p) = 7 then
    (if rdN L le (sk L le (tE L le (tE L le p))) (tE L le (tE L le (tE L le p))) 0 (if cwd L (sk L le p) (tE L le p) = 6 then 30 else 99) = -1 then (false, sk L le (tE L le (tE L le p)), 0, 0, 0)
    else (true, tE L le (tE L le (tE L le p)), cwd L (sk L le p) (tE L le p), rdN L le (sk L le (tE L le p)) (tE L le (tE L le p)) (loF (cwd L (sk L le p) (tE L le p))) (hiF (cwd L (sk L le p) (tE L le p)) W), rdN L le (sk L le (tE L le (tE L le p))) (tE L le (tE L le (tE L le p))) 0 (if cwd L (sk L le p) (tE L le p) = 6 then 30 else 99)))
  else (true, tE L le (tE L le p), cwd L (sk L le p) (tE L le p), rdN L le (sk L le (tE L le p)) (tE L le (tE L le p)) (loF (cwd L (sk L le p) (tE L le p))) (hiF (cwd L (sk L le p) (tE L le p)) W), 0)
def pfB (D : Bo) (w a c : Int) : Bo := if w = 5 then bd0 a else if w = 6 then D.setS a c else if w = 7 then D.setBn a c else if w = 8 then D.setT a else D.setK a w
def CB (j : Nat) : Prop := (7 ≤ j ∧ j < 11) ∨ j = 18
def CS (g : AH) (L : List Int) (le cl st en : Int) (D : Bo) : Prop := g[18]? = some (5, [19, le, cl, st, en]) ∧ TH g L le ∧ BdH g 7 D ∧ BoOK D
section CCL
variable {L : List Int} {le : Int} {d : Nat}
theorem te_r {b : Nat} (l0 : 0 ≤ le) (hb : (b : Int) ≤ le) : b ≤ te L le b ∧ (te L le b : Int) ≤ le := by
  unfold te
  by_cases a : 97 ≤ ch L le b ∧ ch L le b ≤ 122
  · have bl : (b : Int) < le := by
      by_cases y : (b : Int) < le
      · exact y
      · rw [ch_out (by omega)] at a; omega
    have r := rn_r (L := L) (le := le) (lo := 97) (hi := 122) (by omega) (le.toNat - (b + 1)) (b + 1) (by omega)
    rw [if_pos a]; omega
  · rw [if_neg a]
    by_cases c : 48 ≤ ch L le b ∧ ch L le b ≤ 57
    · have bl : (b : Int) < le := by
        by_cases y : (b : Int) < le
        · exact y
        · rw [ch_out (by omega)] at c; omega
      have r := rn_r (L := L) (le := le) (lo := 48) (hi := 57) (by omega) (le.toNat - (b + 1)) (b + 1) (by omega)
      rw [if_pos c]; omega
    · rw [if_neg c]
      by_cases y : (b : Int) < le
      · rw [if_pos y]; omega
      · rw [if_neg y]; omega
theorem tE_r {p : Nat} (l0 : 0 ≤ le) (hp : (p : Int) ≤ le) : sk L le p ≤ tE L le p ∧ (tE L le p : Int) ≤ le ∧ (sk L le p : Int) ≤ le := by
  have s := sk_r (L := L) (le := le) (le.toNat - p) p (by omega)
  have t := te_r (L := L) l0 s.2.1
  exact ⟨t.1, t.2, s.2.1⟩
theorem rdN_r {b e : Nat} {lo hi : Int} : rdN L le b e lo hi = -1 ∨ (lo ≤ rdN L le b e lo hi ∧ rdN L le b e lo hi ≤ hi) := by
  unfold rdN
  split
  · split
    · split
      · rename_i h; exact Or.inr h
      · exact Or.inl rfl
    · exact Or.inl rfl
  · exact Or.inl rfl
theorem cwd_r (b e : Nat) : -1 ≤ cwd L b e ∧ cwd L b e ≤ 8 := by
  unfold cwd
  split
  · omega
  · split
    · omega
    · split
      · omega
      · split
        · omega
        · split
          · omega
          · split
            · omega
            · split
              · omega
              · split
                · omega
                · split <;> omega
theorem ok_setT {B : Bo} {v : Int} (O : BoOK B) (hv : v = 0 ∨ v = 1) : BoOK (B.setT v) := ⟨O.1, O.2.1, O.2.2.1, O.2.2.2.1, O.2.2.2.2.1, O.2.2.2.2.2.1, hv, O.2.2.2.2.2.2.2⟩
theorem CS.ts {g : AH} {cl st en : Int} {D : Bo} (S : CS g L le cl st en D) (cl' st' en' : Int) : CS (tS g le cl' st' en') L le cl' st' en' D ∧ Fr CB g (tS g le cl' st' en') := by
  obtain ⟨a, t, b, o⟩ := S
  have F : Fr (fun j => j = 18) g (tS g le cl' st' en') := fr_set rfl
  refine ⟨⟨getS (gtl a), ⟨by rw [F.len]; exact t.1, by rw [F.g 19 (by omega)]; exact t.2.1, t.2.2⟩, b.fr F (fun j x y => by omega), o⟩, F.wd (fun j z => Or.inr z)⟩
theorem CS.bd {g : AH} {cl st en : Int} {D D' : Bo} (S : CS g L le cl st en D) (o' : BoOK D') : CS (setB g 7 D') L le cl st en D' ∧ Fr CB g (setB g 7 D') := by
  obtain ⟨a, t, b, o⟩ := S
  have hl : 7 + 3 < g.length := b.lt
  have F : Fr (fun j => 7 ≤ j ∧ j < 11) g (setB g 7 D') := fr_setB hl (fun j x y => by omega)
  exact ⟨⟨by rw [F.g 18 (by omega)]; exact a, ⟨by rw [F.len]; exact t.1, by rw [F.g 19 (by omega)]; exact t.2.1, t.2.2⟩, bdH_set hl, o'⟩, F.wd (fun j z => Or.inl z)⟩
theorem CS.same {g : AH} {cl st en : Int} {D : Bo} (S : CS g L le cl st en D) : tS g le cl st en = g := set_same S.1
theorem cs_adv {g : AH} {cl st : Int} {p : Nat} {D : Bo} (S : CS g L le cl st (p : Int) D) (hp : (p : Int) ≤ le) : ∃ g' : AH, cal (d + 2) m_Te_advance [(105, 18)] g = some (0, g') ∧ CS g' L le cl ((sk L le p : Nat) : Int) ((tE L le p : Nat) : Int) D ∧ Fr CB g g' := by
  have a := c_advance (d := d) (cl := cl) (st := st) S.2.1 hp
  rw [S.same] at a
  obtain ⟨s, f⟩ := S.ts cl ((sk L le p : Nat) : Int) ((tE L le p : Nat) : Int)
  exact ⟨_, a, s, f⟩
theorem cs_num {g : AH} {cl st : Int} {p : Nat} {D : Bo} (S : CS g L le cl st (p : Int) D) (hp : (p : Int) ≤ le) (lo hi : Int) : ∃ g' : AH, cal (d + 3) m_Te_readNumber [(105, 18), (0, lo), (0, hi)] g = some (rdN L le (sk L le p) (tE L le p) lo hi, g') ∧ CS g' L le cl ((sk L le p : Nat) : Int) ((tE L le p : Nat) : Int) D ∧ Fr CB g g' := by
  have a := c_readNumber (d := d) (cl := cl) (st := st) S.2.1 hp lo hi
  rw [S.same] at a
  obtain ⟨s, f⟩ := S.ts cl ((sk L le p : Nat) : Int) ((tE L le p : Nat) : Int)
  exact ⟨_, a, s, f⟩
theorem cs_perf {g : AH} {cl st en : Int} {D : Bo} (S : CS g L le cl st en D) {w a c : Int} (w0 : 0 ≤ w) (w8 : w ≤ 8) (ha : loF w ≤ a ∧ a ≤ hiF w D.w) (h6 : w = 6 → 0 ≤ c ∧ c ≤ 30) (h7 : w = 7 → 0 ≤ c ∧ c ≤ 99) : BoOK (pfB D w a c) ∧ ∃ g' : AH, cal (d + 2) m_Te_perform [(100, 7), (0, w), (0, a), (0, c)] g = some (0, g') ∧ CS g' L le cl st en (pfB D w a c) ∧ Fr CB g g' := by
  have O := S.2.2.2
  have w5 := O.w5
  have H := S.2.2.1
  unfold loF hiF at ha
  have PB : ∀ D' : Bo, pfB D w a c = D' → BoOK D' → cal (d + 2) m_Te_perform [(100, 7), (0, w), (0, a), (0, c)] g = some (0, setB g 7 D') → BoOK (pfB D w a c) ∧ ∃ g' : AH, cal (d + 2) m_Te_perform [(100, 7), (0, w), (0, a), (0, c)] g = some (0, g') ∧ CS g' L le cl st en (pfB D w a c) ∧ Fr CB g g' := by
    intro D' e o q
    rw [e]
    obtain ⟨s, f⟩ := S.bd o
    exact ⟨o, _, q, s, f⟩
  by_cases z5 : w = 5
  · rw [if_pos z5, if_pos z5] at ha
    have am : a_max 2 (a_min a 5) = a := by
      have : a_min a 5 = a := by rw [a_min_def, if_neg (by omega)]
      rw [this, a_max_def]
      by_cases q : 2 < a
      · rw [if_pos q]
      · rw [if_neg q]; omega
    have su := c_setUp (d := d) (x := a) H (by rw [am]; exact ⟨by show 2 ≤ a; omega, by show a ≤ 5; omega, O.2.2⟩)
    rw [am] at su
    have su : cal (d + 1) m_Bd_setUp [(100, 7), (0, a)] g = some (0, setB g 7 (bd0 a)) := su
    refine PB (bd0 a) (if_pos z5) (ok_bd0 (by omega) (by omega)) ?_
    rw [k_Te_perform, if_pos z5, su, Option.bind_some]
  rw [if_neg z5, if_neg z5] at ha
  by_cases z6 : w = 6
  · have := h6 z6
    rw [if_neg (by omega)] at ha
    have x := H.wS O (i := a) (by omega) (by omega) c
    have x : wra 20 g 9 a c = some (setB g 7 (D.setS a c)) := x
    have y : rdr 0 g 7 1 = some 9 := H.rs
    refine PB (D.setS a c) (by unfold pfB; rw [if_neg z5, if_pos z6]) (ok_setS O (by omega) (by omega)) ?_
    rw [k_Te_perform, if_neg z5, if_pos z6, k_Bd_setSeeds, y, Option.bind_some, x]; rfl
  by_cases z7 : w = 7
  · have := h7 z7
    rw [if_pos (by omega)] at ha
    have x := H.wB (s := a) (by omega) c
    have x : wra 20 g 10 a c = some (setB g 7 (D.setBn a c)) := x
    have y : rdr 0 g 7 2 = some 10 := H.rb
    refine PB (D.setBn a c) (by unfold pfB; rw [if_neg z5, if_neg z6, if_pos z7]) (ok_setBn O (by omega) (by omega)) ?_
    rw [k_Te_perform, if_neg z5, if_neg z6, if_pos z7, k_Bd_setBarn, y, Option.bind_some, x]; rfl
  by_cases z8 : w = 8
  · rw [if_pos (by omega)] at ha
    have x := H.wT a
    have x : wrf 0 g 7 4 a = some (setB g 7 (D.setT a)) := x
    refine PB (D.setT a) (by unfold pfB; rw [if_neg z5, if_neg z6, if_neg z7, if_pos z8]) (ok_setT O (by omega)) ?_
    rw [k_Te_perform, if_neg z5, if_neg z6, if_neg z7, if_pos z8, k_Bd_setTurn, x]; rfl
  · rw [if_neg (by omega)] at ha
    have x := H.wK O (i := a) (by omega) (by omega) w
    have x : wra 20 g 8 a w = some (setB g 7 (D.setK a w)) := x
    have y : rdr 0 g 7 0 = some 8 := H.rk
    refine PB (D.setK a w) (by unfold pfB; rw [if_neg z5, if_neg z6, if_neg z7, if_neg z8]) (ok_setK O (by omega) (by omega)) ?_
    rw [k_Te_perform, if_neg z5, if_neg z6, if_neg z7, if_neg z8, k_Bd_setKind, y, Option.bind_some, x]; rfl
theorem c_clause {g : AH} {cl st : Int} {p : Nat} {D : Bo} (S : CS g L le cl st (p : Int) D) (hp : (p : Int) ≤ le) : ∃ (g' : AH) (st' en' : Int), cal (d + 5) m_Te_readClause [(105, 18), (100, 7)] g = some (bI (clF L le p D.w).1, g') ∧ CS g' L le cl st' en' (if (clF L le p D.w).1 = true then pfB D (clF L le p D.w).2.2.1 (clF L le p D.w).2.2.2.1 (clF L le p D.w).2.2.2.2 else D) ∧ Fr CB g g' ∧ (if (clF L le p D.w).1 = true then en' else st') = ((clF L le p D.w).2.1 : Int) ∧ ((clF L le p D.w).2.1 : Int) ≤ le := by
  have l0 := S.2.1.2.2.2.1
  have O := S.2.2.2
  have w5 := O.w5
  have w2 := O.w2
  have t0 := tE_r (L := L) l0 hp
  have t1 := tE_r (L := L) l0 t0.2.1
  have t2 := tE_r (L := L) l0 t1.2.1
  obtain ⟨g1, a1, S1, F1⟩ := cs_adv (d := d + 2) S hp
  have wd := c_word (d := d + 2) (cl := cl) S1.2.1 t0.1 t0.2.1
  rw [S1.same] at wd
  have cr := cwd_r (L := L) (sk L le p) (tE L le p)
  have ho : cal (d + 4) m_Bd_houses [(100, 7)] g1 = some (2 * D.w, g1) := c_houses (n := 7) S1.2.2.1 O
  unfold clF
  generalize cwd L (sk L le p) (tE L le p) = w at *
  by_cases z : w = -1
  · rw [if_pos z]
    refine ⟨g1, _, _, ?_, S1, F1, rfl, t0.2.2⟩
    rw [k_Te_readClause]
    simp only [a1, wd, Option.bind_some]
    rw [if_pos z]; rfl
  rw [if_neg z]
  obtain ⟨g2, a2, S2, F2⟩ := cs_num (d := d) S1 t0.2.1 (loF w) (hiF w D.w)
  have RF : cal (d + 4) m_Te_readFirst [(105, 18), (0, w), (0, 2 * D.w)] g1 = some (rdN L le (sk L le (tE L le p)) (tE L le (tE L le p)) (loF w) (hiF w D.w), g2) := by
    rw [k_Te_readFirst, sub_id (by omega) (by omega)]
    unfold loF hiF at a2 ⊢
    by_cases z5 : w = 5
    · rw [if_pos z5]; rw [if_pos z5, if_pos z5] at a2 ⊢; rw [a2]; rfl
    rw [if_neg z5]; rw [if_neg z5, if_neg z5] at a2 ⊢
    by_cases z6 : w = 6
    · rw [if_pos z6]; rw [if_neg (by omega)] at a2 ⊢; rw [a2]; rfl
    rw [if_neg z6]
    by_cases z7 : w = 7
    · rw [if_pos z7]; rw [if_pos (by omega)] at a2 ⊢; rw [a2]; rfl
    rw [if_neg z7]
    by_cases z8 : w = 8
    · rw [if_pos z8]; rw [if_pos (by omega)] at a2 ⊢; rw [a2]; rfl
    rw [if_neg z8]; rw [if_neg (by omega)] at a2 ⊢; rw [a2]; rfl
  have r1 := rdN_r (L := L) (le := le) (b := sk L le (tE L le p)) (e := tE L le (tE L le p)) (lo := loF w) (hi := hiF w D.w)
  generalize rdN L le (sk L le (tE L le p)) (tE L le (tE L le p)) (loF w) (hiF w D.w) = v1 at *
  by_cases y : v1 = -1
  · rw [if_pos y]
    refine ⟨g2, _, _, ?_, S2, F1.tr F2, rfl, t1.2.2⟩
    rw [k_Te_readClause]
    simp only [a1, wd, ho, RF, Option.bind_some]
    rw [if_neg z, if_pos y]; rfl
  rw [if_neg y]
  have r1 : loF w ≤ v1 ∧ v1 ≤ hiF w D.w := by omega
  by_cases z67 : w = 6 ∨ w = 7
  · rw [if_pos z67]
    obtain ⟨g3, a3, S3, F3⟩ := cs_num (d := d) S2 t1.2.1 0 (if w = 6 then 30 else 99)
    have RS : cal (d + 4) m_Te_readSecond [(105, 18), (0, w)] g2 = some (rdN L le (sk L le (tE L le (tE L le p))) (tE L le (tE L le (tE L le p))) 0 (if w = 6 then 30 else 99), g3) := by
      rw [k_Te_readSecond]
      by_cases z6 : w = 6
      · rw [if_pos z6] at a3 ⊢; rw [if_pos z6, a3]; rfl
      · rw [if_neg z6] at a3 ⊢; rw [if_neg z6, if_pos (by omega), a3]; rfl
    have r2 := rdN_r (L := L) (le := le) (b := sk L le (tE L le (tE L le p))) (e := tE L le (tE L le (tE L le p))) (lo := 0) (hi := if w = 6 then 30 else 99)
    generalize rdN L le (sk L le (tE L le (tE L le p))) (tE L le (tE L le (tE L le p))) 0 (if w = 6 then 30 else 99) = v2 at *
    by_cases x : v2 = -1
    · rw [if_pos x]
      refine ⟨g3, _, _, ?_, S3, (F1.tr F2).tr F3, rfl, t2.2.2⟩
      rw [k_Te_readClause]
      simp only [a1, wd, ho, RF, RS, Option.bind_some]
      rw [if_neg z, if_neg y, if_pos x]; rfl
    rw [if_neg x]
    have h6 : w = 6 → 0 ≤ v2 ∧ v2 ≤ 30 := fun q => by rw [if_pos q] at r2; omega
    have h7 : w = 7 → 0 ≤ v2 ∧ v2 ≤ 99 := fun q => by rw [if_neg (by omega)] at r2; omega
    obtain ⟨o4, g4, a4, S4, F4⟩ := cs_perf (d := d + 2) S3 (by omega) cr.2 r1 h6 h7
    refine ⟨g4, _, _, ?_, S4, ((F1.tr F2).tr F3).tr F4, rfl, t2.2.1⟩
    rw [k_Te_readClause]
    simp only [a1, wd, ho, RF, RS, a4, Option.bind_some]
    rw [if_neg z, if_neg y, if_neg x]; rfl
  · rw [if_neg z67]
    have RS : cal (d + 4) m_Te_readSecond [(105, 18), (0, w)] g2 = some (0, g2) := by
      rw [k_Te_readSecond, if_neg (by omega), if_neg (by omega)]
    obtain ⟨o4, g4, a4, S4, F4⟩ := cs_perf (d := d + 2) (c := 0) S2 (by omega) cr.2 r1 (fun q => absurd (Or.inl q) z67) (fun q => absurd (Or.inr q) z67)
    refine ⟨g4, _, _, ?_, S4, (F1.tr F2).tr F4, rfl, t1.2.1⟩
    rw [k_Te_readClause]
    simp only [a1, wd, ho, RF, RS, a4, Option.bind_some]
    rw [if_neg z, if_neg y, if_neg (by decide)]; rfl
end CCL
