/-! What ties a heap of the abstract machine to the machine's own: addresses as, cells, tags. -/
/-- classes and slots; array classes; where the new cells begin; the script; where the Strings and their bytes lie -/
abbrev AG : Type := va_G × (Nat → ClassId) × Nat × List Int × (Nat → Nat) × (Nat → Nat)
def gA (G : AG) : Nat → Prop := fun q => G.2.2.1 ≤ q
abbrev gD (G : AG) : va_G := G.1
abbrev gC (G : AG) : Nat → ClassId := G.2.1
abbrev gS (G : AG) : List Int := G.2.2.2.1
abbrev gK (G : AG) : Nat → Nat := G.2.2.2.2.1
abbrev gV (G : AG) : Nat → Nat := G.2.2.2.2.2
def ovr : List Int := [3, 7, 11, 17, 49]
def tyA (G : AG) : List (ClassId × FieldType) := [(gC G 20, .int), (gC G 21, .boolean), (gC G 22, .char), (gC G 23, .long), (gC G 24, .object RX0), (gC G 25, .object RX1)]
def inI (x : Int) : Prop := -2147483648 ≤ x ∧ x < 2147483648
def inL (x : Int) : Prop := -9223372036854775808 ≤ x ∧ x < 9223372036854775808
def adr (as : List Nat) (x : Int) : Nat := as.getD x.toNat 0
def hro (as : List Nat) (x : Int) : Option Nat := if x < 0 then none else some (adr as x)
def cvv (G : AG) (as : List Nat) (v : AV) : Value := if v.1 = 0 then .int (Int32.ofInt v.2) else if v.1 = 2 then .long (Int64.ofInt v.2) else if v.1 = 3 then .ref (gK G v.2.toNat) else .ref (adr as v.2)
def okv (tg : List Nat) (v : AV) : Prop := (v.1 = 0 ∧ inI v.2) ∨ (v.1 = 2 ∧ inL v.2) ∨ (v.1 = 3 ∧ 0 ≤ v.2 ∧ v.2 < 9) ∨ (100 ≤ v.1 ∧ 0 ≤ v.2 ∧ tg[v.2.toNat]? = some (v.1 - 100))
def sty (t k : Nat) : Nat := if t ≤ 7 then (am_ft t).getD k 1 else if t = 23 then 2 else if t = 24 then 100 else if t = 25 then 101 else 0
def okx (tg : List Nat) (g : Nat) (x : Int) : Prop := (g = 0 → inI x) ∧ (g = 2 → inL x) ∧ (100 ≤ g → 0 ≤ x → tg[x.toNat]? = some (g - 100))
def okc (tg : List Nat) (c : Nat × List Int) : Prop := ((c.1 ≤ 7 ∧ c.2.length = cF c.1) ∨ (20 ≤ c.1 ∧ c.1 ≤ 25)) ∧ ∀ k x, c.2[k]? = some x → okx tg (sty c.1 k) x
def hvx (as : List Nat) (g : Nat) (x : Int) : Value := if 100 ≤ g then va_rf (hro as x) else .int (Int32.ofInt x)
def encF (as : List Nat) (t : Nat) (xs : List Int) : List Value := (List.range xs.length).map (fun k => hvx as (sty t k) (xs.getD k 0))
def enc (G : AG) (as : List Nat) (c : Nat × List Int) : va_E := if c.1 = 23 then .inl (gC G 23, c.2.length, .inr (.inl (fun j => Int64.ofInt (c.2.getD j 0)))) else if 24 ≤ c.1 then .inl (gC G c.1, c.2.length, .inr (.inr (.inr (.inr (fun j => hro as (c.2.getD j (-1))))))) else if 20 ≤ c.1 then .inl (gC G c.1, c.2.length, .inl (fun j => Int32.ofInt (c.2.getD j 0))) else .inr (c.1, encF as c.1 c.2)
def wd (G : AG) (as : List Nat) (h : AH) : va_W := (List.range (h.length - 2)).map (fun k => (as.getD (k + 2) 0, enc G as (h.getD (k + 2) (0, []))))
def tgs (h : AH) : List Nat := h.map Prod.fst
def RelP (G : AG) (as : List Nat) (h : AH) (H : Heap) : Prop := as.length = h.length ∧ 2 ≤ h.length ∧ h[0]? = some (26, gS G) ∧ h[1]? = some (26, ovr) ∧ (∀ k c, 2 ≤ k → h[k]? = some c → okc (tgs h) c) ∧ va_P (gD G) clA (wd G as h) H ∧ va_D (gA G) (wd G as h)
theorem gdE {α : Type} (l : List α) {i : Nat} {d : α} : l.getD i d = (l[i]?).getD d := List.getD_eq_getElem?_getD
theorem wd_get {G : AG} {as : List Nat} {h : AH} {k : Nat} {c : Nat × List Int} (hk : 2 ≤ k) (hc : h[k]? = some c) : (wd G as h)[k - 2]? = some (as.getD k 0, enc G as c) := by
  have hl : k < h.length := (List.getElem?_eq_some_iff.mp hc).1
  unfold wd
  rw [List.getElem?_map, List.getElem?_range (by omega)]
  simp only [Option.map_some, show k - 2 + 2 = k by omega]
  rw [gdE h, hc]; rfl
theorem wd_set {G : AG} {as : List Nat} {h : AH} {k : Nat} {c : Nat × List Int} (hk : 2 ≤ k) (hl : k < h.length) : (wd G as h).set (k - 2) (as.getD k 0, enc G as c) = wd G as (h.set k c) := by
  apply List.ext_getElem?
  intro j
  unfold wd
  rw [List.getElem?_set, List.length_map, List.length_range, List.length_set]
  by_cases hj : k - 2 = j
  · subst hj
    rw [if_pos rfl, if_pos (by omega), List.getElem?_map, List.getElem?_range (by omega)]
    simp only [Option.map_some, show k - 2 + 2 = k by omega]
    rw [gdE (h.set k c), List.getElem?_set, if_pos rfl, if_pos hl]; rfl
  · rw [if_neg hj, List.getElem?_map, List.getElem?_map]
    by_cases hj2 : j < h.length - 2
    · rw [List.getElem?_range hj2]
      simp only [Option.map_some]
      rw [gdE (h.set k c), List.getElem?_set, if_neg (by omega), ← List.getD_eq_getElem?_getD]
    · rw [List.getElem?_eq_none (by rw [List.length_range]; omega)]; rfl
theorem adr_ext {as : List Nat} {x : Int} (e : List Nat) (hx : x.toNat < as.length) : adr (as ++ e) x = adr as x := by
  unfold adr
  rw [List.getD_eq_getElem?_getD, List.getD_eq_getElem?_getD, List.getElem?_append_left hx]
theorem hro_ext {as : List Nat} {x : Int} (e : List Nat) (hx : 0 ≤ x → x.toNat < as.length) : hro (as ++ e) x = hro as x := by
  unfold hro
  by_cases h : x < 0
  · rw [if_pos h, if_pos h]
  · rw [if_neg h, if_neg h, adr_ext e (hx (by omega))]
theorem tg_lt {h : AH} {n t : Nat} (hx : (tgs h)[n]? = some t) : n < h.length := by
  have := (List.getElem?_eq_some_iff.mp hx).1
  simpa [tgs] using this
theorem tg_at {h : AH} {n t : Nat} (hx : (tgs h)[n]? = some t) : ∃ xs, h[n]? = some (t, xs) := by
  unfold tgs at hx
  rw [List.getElem?_map] at hx
  cases hc : h[n]? with
  | none => rw [hc] at hx; cases hx
  | some c => rw [hc] at hx; cases hx; exact ⟨c.2, rfl⟩
theorem at_tg {h : AH} {n t : Nat} {xs : List Int} (hx : h[n]? = some (t, xs)) : (tgs h)[n]? = some t := by
  unfold tgs; rw [List.getElem?_map, hx]; rfl
theorem okx_ref {h : AH} {g : Nat} {x : Int} (ho : okx (tgs h) g x) (hg : 100 ≤ g) (hx : 0 ≤ x) : x.toNat < h.length := tg_lt (ho.2.2 hg hx)
theorem enc_ext {G : AG} {as : List Nat} {h : AH} {c : Nat × List Int} (e : List Nat) (hlen : as.length = h.length) (ho : okc (tgs h) c) : enc G (as ++ e) c = enc G as c := by
  obtain ⟨h1, h2⟩ := ho
  unfold enc
  by_cases a : c.1 = 23
  · rw [if_pos a, if_pos a]
  · rw [if_neg a, if_neg a]
    by_cases b : 24 ≤ c.1
    · rw [if_pos b, if_pos b]
      have : (fun j => hro (as ++ e) (c.2.getD j (-1))) = (fun j => hro as (c.2.getD j (-1))) := by
        funext j
        cases hj : c.2[j]? with
        | none => rw [List.getD_eq_getElem?_getD, hj]; rfl
        | some x =>
          rw [List.getD_eq_getElem?_getD, hj]
          have h3 := h2 j x hj
          refine hro_ext e (fun hx => ?_)
          have hg : 100 ≤ sty c.1 j := by
            unfold sty
            rcases (show c.1 = 24 ∨ c.1 = 25 by omega) with q | q <;> simp [q]
          rw [hlen]; exact okx_ref h3 hg hx
      rw [this]
    · rw [if_neg b, if_neg b]
      by_cases d : 20 ≤ c.1
      · rw [if_pos d, if_pos d]
      · rw [if_neg d, if_neg d]
        have : encF (as ++ e) c.1 c.2 = encF as c.1 c.2 := by
          unfold encF
          apply List.map_congr_left
          intro k hk
          have hk' : k < c.2.length := List.mem_range.mp hk
          unfold hvx
          by_cases g : 100 ≤ sty c.1 k
          · rw [if_pos g, if_pos g]
            congr 1
            have h3 := h2 k _ (List.getElem?_eq_getElem hk')
            rw [List.getD_eq_getElem?_getD, List.getElem?_eq_getElem hk']
            exact hro_ext e (fun hx => by rw [hlen]; exact okx_ref h3 g hx)
          · rw [if_neg g, if_neg g]
        rw [this]
theorem wd_push {G : AG} {as : List Nat} {h : AH} {c : Nat × List Int} (q : Nat) (hlen : as.length = h.length) (h2 : 2 ≤ h.length) (ho : ∀ k c, 2 ≤ k → h[k]? = some c → okc (tgs h) c) : wd G (as ++ [q]) (h ++ [c]) = wd G as h ++ [(q, enc G (as ++ [q]) c)] := by
  apply List.ext_getElem?
  intro j
  unfold wd
  rw [List.length_append, List.length_singleton, List.getElem?_append, List.length_map, List.length_range]
  by_cases hj : j < h.length - 2
  · rw [if_pos hj, List.getElem?_map, List.getElem?_map, List.getElem?_range (by omega), List.getElem?_range hj]
    simp only [Option.map_some]
    have hl : j + 2 < h.length := by omega
    rw [gdE (as ++ [q]), List.getElem?_append_left (by omega), ← List.getD_eq_getElem?_getD]
    rw [gdE (h ++ [c]), List.getElem?_append_left hl, ← List.getD_eq_getElem?_getD]
    rw [enc_ext [q] hlen (ho (j + 2) _ (by omega) (by rw [List.getD_eq_getElem?_getD, List.getElem?_eq_getElem hl]; rfl))]
  · rw [if_neg hj]
    by_cases hj2 : j = h.length - 2
    · subst hj2
      rw [List.getElem?_map, List.getElem?_range (by omega)]
      simp only [Option.map_some, Nat.sub_self, List.getElem?_cons_zero, show h.length - 2 + 2 = h.length by omega]
      rw [gdE (as ++ [q]), List.getElem?_append_right (by omega), gdE (h ++ [c]), List.getElem?_append_right (by omega)]
      simp [hlen]
    · rw [List.getElem?_eq_none (by rw [List.length_map, List.length_range]; omega), List.getElem?_eq_none (by simp; omega)]
theorem cvv_ext {G : AG} {as : List Nat} {h : AH} {v : AV} (e : List Nat) (hlen : as.length = h.length) (ho : okv (tgs h) v) : cvv G (as ++ e) v = cvv G as v := by
  unfold cvv
  rcases ho with ⟨a, -⟩ | ⟨a, -⟩ | ⟨a, -⟩ | ⟨a, b, d⟩
  · simp [a]
  · simp [a]
  · simp [a]
  · rw [if_neg (by omega), if_neg (by omega), if_neg (by omega), if_neg (by omega), if_neg (by omega), if_neg (by omega)]
    rw [adr_ext e (by rw [hlen]; exact tg_lt d)]
theorem okv_ext {tg : List Nat} {v : AV} (e : List Nat) (ho : okv tg v) : okv (tg ++ e) v := by
  rcases ho with a | a | a | ⟨a, b, d⟩
  · exact Or.inl a
  · exact Or.inr (Or.inl a)
  · exact Or.inr (Or.inr (Or.inl a))
  · exact Or.inr (Or.inr (Or.inr ⟨a, b, by rw [List.getElem?_append_left (List.getElem?_eq_some_iff.mp d).1]; exact d⟩))
theorem okx_ext {tg : List Nat} {g : Nat} {x : Int} (e : List Nat) (ho : okx tg g x) : okx (tg ++ e) g x :=
  ⟨ho.1, ho.2.1, fun a b => by rw [List.getElem?_append_left (List.getElem?_eq_some_iff.mp (ho.2.2 a b)).1]; exact ho.2.2 a b⟩
theorem okc_ext {tg : List Nat} {c : Nat × List Int} (e : List Nat) (ho : okc tg c) : okc (tg ++ e) c := ⟨ho.1, fun k x hx => okx_ext e (ho.2 k x hx)⟩
theorem tgs_set {h : AH} {k : Nat} {t : Nat} {xs ys : List Int} (hc : h[k]? = some (t, xs)) : tgs (h.set k (t, ys)) = tgs h := by
  unfold tgs
  apply List.ext_getElem?
  intro j
  rw [List.getElem?_map, List.getElem?_map, List.getElem?_set]
  by_cases hj : k = j
  · subst hj
    rw [if_pos rfl, if_pos (List.getElem?_eq_some_iff.mp hc).1, hc]; rfl
  · rw [if_neg hj]
/-- a cell is written: the world behind it -/
theorem RelP.set {G : AG} {as : List Nat} {h : AH} {H H1 : Heap} {k t : Nat} {xs ys : List Int} (hR : RelP G as h H) (hk : 2 ≤ k) (hc : h[k]? = some (t, xs)) (ho : okc (tgs h) (t, ys))
    (hP : va_P (gD G) clA ((wd G as h).set (k - 2) (as.getD k 0, enc G as (t, ys))) H1) (hD : va_D (gA G) ((wd G as h).set (k - 2) (as.getD k 0, enc G as (t, ys)))) : RelP G as (h.set k (t, ys)) H1 := by
  obtain ⟨h1, h2, h3, h4, h5, -, -⟩ := hR
  have hl := (List.getElem?_eq_some_iff.mp hc).1
  rw [wd_set hk hl] at hP hD
  refine ⟨by rw [List.length_set]; exact h1, by rw [List.length_set]; exact h2, by rw [List.getElem?_set, if_neg (by omega)]; exact h3, by rw [List.getElem?_set, if_neg (by omega)]; exact h4, fun j c hj hc' => ?_, hP, hD⟩
  rw [tgs_set hc]
  rw [List.getElem?_set] at hc'
  by_cases e : k = j
  · subst e
    rw [if_pos rfl, if_pos hl] at hc'
    cases hc'; exact ho
  · rw [if_neg e] at hc'; exact h5 j c hj hc'
/-- a cell is made -/
theorem RelP.push {G : AG} {as : List Nat} {h : AH} {H H1 : Heap} {c : Nat × List Int} {q : Nat} (hR : RelP G as h H) (ho : okc (tgs h ++ [c.1]) c)
    (hP : va_P (gD G) clA (wd G as h ++ [(q, enc G (as ++ [q]) c)]) H1) (hD : va_D (gA G) (wd G as h ++ [(q, enc G (as ++ [q]) c)])) : RelP G (as ++ [q]) (h ++ [c]) H1 := by
  obtain ⟨h1, h2, h3, h4, h5, -, -⟩ := hR
  rw [← wd_push q h1 h2 h5] at hP hD
  have ht : tgs (h ++ [c]) = tgs h ++ [c.1] := by simp [tgs]
  refine ⟨by simp [h1], by simp; omega, by rw [List.getElem?_append_left (by omega)]; exact h3, by rw [List.getElem?_append_left (by omega)]; exact h4, fun j c' hj hc' => ?_, hP, hD⟩
  rw [ht]
  by_cases e : j < h.length
  · rw [List.getElem?_append_left e] at hc'
    exact okc_ext _ (h5 j c' hj hc')
  · rw [List.getElem?_append_right (by omega)] at hc'
    have : j - h.length = 0 := by
      have := (List.getElem?_eq_some_iff.mp hc').1
      simp at this; omega
    rw [this] at hc'
    cases hc'; exact ho
theorem am_cl_spec {t : Nat} {h : AH} {a : Int} {xs : List Int} (e : am_cl t h a = some xs) : 0 ≤ a ∧ h[a.toNat]? = some (t, xs) := by
  unfold am_cl at e
  split at e
  next ha =>
    split at e
    next c hc =>
      split at e
      next ht => cases e; subst ht; exact ⟨ha, hc⟩
      next => cases e
    next => cases e
  next => cases e
theorem RelP.at2 {G : AG} {as : List Nat} {h : AH} {H : Heap} {n t : Nat} {xs : List Int} (hR : RelP G as h H) (hc : h[n]? = some (t, xs)) (ht : t ≠ 26) : 2 ≤ n := by
  obtain ⟨-, -, h3, h4, -⟩ := hR
  rcases Nat.lt_or_ge n 2 with q | q
  · rcases (show n = 0 ∨ n = 1 by omega) with rfl | rfl
    · rw [h3] at hc; cases hc; exact absurd rfl ht
    · rw [h4] at hc; cases hc; exact absurd rfl ht
  · exact q
