/-! Plain reading of the machine's operations: in range they are those of the whole numbers. -/
theorem w32_id {x : Int} (h : inI x) : w32 x = x := by rw [w32_def]; exact toI h
theorem add_id {x y : Int} (h1 : -2147483648 ≤ x + y) (h2 : x + y < 2147483648) : a_add x y = x + y := by rw [a_add_def, w32_id ⟨h1, h2⟩]
theorem sub_id {x y : Int} (h1 : -2147483648 ≤ x - y) (h2 : x - y < 2147483648) : a_sub x y = x - y := by rw [a_sub_def, w32_id ⟨h1, h2⟩]
theorem mul_id {x y : Int} (h1 : -2147483648 ≤ x * y) (h2 : x * y < 2147483648) : a_mul x y = x * y := by rw [a_mul_def, w32_id ⟨h1, h2⟩]
theorem neg_id {x : Int} (h1 : -2147483648 ≤ -x) (h2 : -x < 2147483648) : a_neg x = -x := by rw [a_neg_def, w32_id ⟨h1, h2⟩]
theorem div_id {x y : Int} (hx : inI x) (hy : inI y) (hp : 0 ≤ x) (hq : 0 < y) : a_div x y = x / y := by
  rw [a_div_def, Int32.toInt_div, toI hx, toI hy, Int.tdiv_eq_ediv_of_nonneg hp]
  have h1 : 0 ≤ x / y := Int.ediv_nonneg hp (by omega)
  have h2 : x / y ≤ x := Int.ediv_le_self y hp
  have := hx.2
  exact Int.bmod_eq_of_le (by omega) (by omega)
section CELLS
variable {h : AH} {n t : Nat} {xs : List Int}
theorem cl_n (e : h[n]? = some (t, xs)) : am_cl t h (n : Int) = some xs := by
  unfold am_cl
  rw [if_pos (by omega), Int.toNat_natCast, e]
  simp
theorem rdf_n (e : h[n]? = some (t, xs)) (k : Nat) : rdf t h (n : Int) k = xs[k]? := by unfold rdf; rw [cl_n e]; rfl
theorem rdr_n (e : h[n]? = some (t, xs)) {k : Nat} {v : Int} (hv : xs[k]? = some v) (h0 : 0 ≤ v) : rdr t h (n : Int) k = some v := by unfold rdr; rw [rdf_n e, hv]; exact if_pos h0
theorem rda_n (e : h[n]? = some (t, xs)) (i : Nat) : rda t h (n : Int) (i : Int) = xs[i]? := by unfold rda; rw [if_pos (by omega), rdf_n e, Int.toNat_natCast]
theorem rda_i (e : h[n]? = some (t, xs)) {i : Int} (hi : 0 ≤ i) : rda t h (n : Int) i = xs[i.toNat]? := by unfold rda; rw [if_pos hi, rdf_n e]
theorem rdar_n (e : h[n]? = some (t, xs)) {i : Int} {v : Int} (hi : 0 ≤ i) (hv : xs[i.toNat]? = some v) (h0 : 0 ≤ v) : rdar t h (n : Int) i = some v := by unfold rdar; rw [if_pos hi, rdr_n e hv h0]
theorem wrf_n (e : h[n]? = some (t, xs)) {k : Nat} (hk : k < xs.length) (v : Int) : wrf t h (n : Int) k v = some (h.set n (t, xs.set k v)) := by unfold wrf; rw [cl_n e]; show (if k < xs.length then _ else _) = _; rw [if_pos hk, Int.toNat_natCast]
theorem wra_i (e : h[n]? = some (t, xs)) {i : Int} (hi : 0 ≤ i) (hk : i.toNat < xs.length) (v : Int) : wra t h (n : Int) i v = some (h.set n (t, xs.set i.toNat v)) := by unfold wra; rw [if_pos hi, wrf_n e hk]
end CELLS
/-! The kinds. -/
def Lk (k s : Int) : Int := if k = 1 then (if 0 < s then s - 1 else 0) else if k = 3 then 0 else if k = 4 then (s + 1) / 2 else s
def Tk (k s : Int) : Bool := if k = 3 then false else if k = 4 then decide (s ≤ 2) else decide (s < 99)
def Yk (k s : Int) : Bool := if k = 3 ∨ k = 4 then false else if k = 2 then decide (2 ≤ s ∧ s ≤ 5) else decide (2 ≤ s ∧ s ≤ 3)
def bI (b : Bool) : Int := if b then 1 else 0
theorem c_lifted {d : Nat} {k s : Int} (hs : 0 ≤ s) (hs2 : s ≤ 1000) (h : AH) : cal (d + 1) m_Ki_lifted [(0, k), (0, s)] h = some (Lk k s, h) := by
  rw [k_Ki_lifted]
  unfold Lk
  split
  · split
    · rw [sub_id (by omega) (by omega)]
    · rfl
  · split
    · rename_i h2; rw [if_neg (by omega), if_neg (by omega)]
    · split
      · rfl
      · split
        · rw [add_id (by omega) (by omega), div_id ⟨by omega, by omega⟩ ⟨by omega, by omega⟩ (by omega) (by omega)]
        · rfl
theorem c_takes {d : Nat} {k s : Int} (h : AH) : cal (d + 1) m_Ki_takes [(0, k), (0, s)] h = some (bI (Tk k s), h) := by
  rw [k_Ki_takes]
  unfold Tk bI
  by_cases h3 : k = 3
  · simp [h3]
  · by_cases h4 : k = 4
    · by_cases hs : 2 < s
      · have : ¬ s ≤ 2 := by omega
        simp [h4, hs, this]
      · have : s ≤ 2 := by omega
        simp [h4, hs, this]
    · by_cases hs : s < 99 <;> simp [h3, h4, hs]
theorem c_yields {d : Nat} {k s : Int} (h : AH) : cal (d + 1) m_Ki_yields [(0, k), (0, s)] h = some (bI (Yk k s), h) := by
  rw [k_Ki_yields]
  unfold Yk bI
  by_cases h2 : k = 2
  · subst h2
    by_cases a : s < 2
    · have : ¬ 2 ≤ s := by omega
      simp [a, this]
    · by_cases b : 5 < s
      · have : ¬ s ≤ 5 := by omega
        simp [a, b, this]
      · have : 2 ≤ s ∧ s ≤ 5 := by omega
        simp [a, b, this]
  · by_cases h3 : k = 3
    · simp [h3]
    · by_cases h4 : k = 4
      · simp [h4]
      · by_cases a : s < 2
        · have : ¬ 2 ≤ s := by omega
          simp [h2, h3, h4, a, this]
        · by_cases b : 3 < s
          · have : ¬ s ≤ 3 := by omega
            simp [h2, h3, h4, a, b, this]
          · have : 2 ≤ s ∧ s ≤ 3 := by omega
            simp [h2, h3, h4, a, b, this]
/-! A board: its houses' kinds and seeds, the barns, its width, turn and moves. -/
def Bo : Type := List Int × List Int × Int × Int × Int × Int × Int
def Bo.ks (B : Bo) : List Int := B.1
def Bo.ss (B : Bo) : List Int := B.2.1
def Bo.b0 (B : Bo) : Int := B.2.2.1
def Bo.b1 (B : Bo) : Int := B.2.2.2.1
def Bo.w (B : Bo) : Int := B.2.2.2.2.1
def Bo.t (B : Bo) : Int := B.2.2.2.2.2.1
def Bo.m (B : Bo) : Int := B.2.2.2.2.2.2
def mkB (ks ss : List Int) (b0 b1 w t m : Int) : Bo := (ks, ss, b0, b1, w, t, m)
def hd0 (n : Nat) (B : Bo) : List Int := [((n + 1 : Nat) : Int), ((n + 2 : Nat) : Int), ((n + 3 : Nat) : Int), B.w, B.t, B.m]
/-- the Board at n shows B -/
def BdH (h : AH) (n : Nat) (B : Bo) : Prop := (h[n]? = some (0, hd0 n B)) ∧ (h[n + 1]? = some (20, B.ks)) ∧ (h[n + 2]? = some (20, B.ss)) ∧ (h[n + 3]? = some (20, [B.b0, B.b1]))
theorem BdH.c0 {h : AH} {n : Nat} {B : Bo} (H : BdH h n B) : h[n]? = some (0, hd0 n B) := H.1
theorem BdH.c1 {h : AH} {n : Nat} {B : Bo} (H : BdH h n B) : h[n + 1]? = some (20, B.ks) := H.2.1
theorem BdH.c2 {h : AH} {n : Nat} {B : Bo} (H : BdH h n B) : h[n + 2]? = some (20, B.ss) := H.2.2.1
theorem BdH.c3 {h : AH} {n : Nat} {B : Bo} (H : BdH h n B) : h[n + 3]? = some (20, [B.b0, B.b1]) := H.2.2.2
def setB (h : AH) (n : Nat) (B : Bo) : AH := (((h.set n (0, hd0 n B)).set (n + 1) (20, B.ks)).set (n + 2) (20, B.ss)).set (n + 3) (20, [B.b0, B.b1])
def BoOK (B : Bo) : Prop := (2 ≤ B.w) ∧ (B.w ≤ 5) ∧ (B.ks.length = 10) ∧ (B.ss.length = 10) ∧ (∀ i : Nat, i < 10 → 0 ≤ B.ks.getD i 0 ∧ B.ks.getD i 0 ≤ 4) ∧ (∀ i : Nat, i < 10 → 0 ≤ B.ss.getD i 0 ∧ B.ss.getD i 0 ≤ 99) ∧ (B.t = 0 ∨ B.t = 1) ∧ (0 ≤ B.m) ∧ (B.m ≤ 1100) ∧ (0 ≤ B.b0) ∧ (0 ≤ B.b1) ∧ (B.b0 ≤ 2000000) ∧ (B.b1 ≤ 2000000)
theorem BoOK.w2 {B : Bo} (H : BoOK B) : 2 ≤ B.w := H.1
theorem BoOK.w5 {B : Bo} (H : BoOK B) : B.w ≤ 5 := H.2.1
theorem BoOK.kl {B : Bo} (H : BoOK B) : B.ks.length = 10 := H.2.2.1
theorem BoOK.sl {B : Bo} (H : BoOK B) : B.ss.length = 10 := H.2.2.2.1
theorem BoOK.kr {B : Bo} (H : BoOK B) : ∀ i : Nat, i < 10 → 0 ≤ B.ks.getD i 0 ∧ B.ks.getD i 0 ≤ 4 := H.2.2.2.2.1
theorem BoOK.sr {B : Bo} (H : BoOK B) : ∀ i : Nat, i < 10 → 0 ≤ B.ss.getD i 0 ∧ B.ss.getD i 0 ≤ 99 := H.2.2.2.2.2.1
theorem BoOK.t01 {B : Bo} (H : BoOK B) : B.t = 0 ∨ B.t = 1 := H.2.2.2.2.2.2.1
theorem BoOK.m0 {B : Bo} (H : BoOK B) : 0 ≤ B.m := H.2.2.2.2.2.2.2.1
theorem BoOK.mm {B : Bo} (H : BoOK B) : B.m ≤ 1100 := H.2.2.2.2.2.2.2.2.1
theorem BoOK.p0 {B : Bo} (H : BoOK B) : 0 ≤ B.b0 := H.2.2.2.2.2.2.2.2.2.1
theorem BoOK.p1 {B : Bo} (H : BoOK B) : 0 ≤ B.b1 := H.2.2.2.2.2.2.2.2.2.2.1
theorem BoOK.q0 {B : Bo} (H : BoOK B) : B.b0 ≤ 2000000 := H.2.2.2.2.2.2.2.2.2.2.2.1
theorem BoOK.q1 {B : Bo} (H : BoOK B) : B.b1 ≤ 2000000 := H.2.2.2.2.2.2.2.2.2.2.2.2
section BD
variable {h : AH} {n d : Nat} {B : Bo}
theorem BdH.rk (H : BdH h n B) : rdr 0 h (n : Int) 0 = some ((n + 1 : Nat) : Int) := rdr_n H.c0 rfl (by omega)
theorem BdH.rs (H : BdH h n B) : rdr 0 h (n : Int) 1 = some ((n + 2 : Nat) : Int) := rdr_n H.c0 rfl (by omega)
theorem BdH.rb (H : BdH h n B) : rdr 0 h (n : Int) 2 = some ((n + 3 : Nat) : Int) := rdr_n H.c0 rfl (by omega)
theorem BdH.rw (H : BdH h n B) : rdf 0 h (n : Int) 3 = some B.w := by rw [rdf_n H.c0]; rfl
theorem BdH.rt (H : BdH h n B) : rdf 0 h (n : Int) 4 = some B.t := by rw [rdf_n H.c0]; rfl
theorem BdH.rm (H : BdH h n B) : rdf 0 h (n : Int) 5 = some B.m := by rw [rdf_n H.c0]; rfl
theorem getD_some {l : List Int} {i : Nat} (hi : i < l.length) : l[i]? = some (l.getD i 0) := by rw [gdE, List.getElem?_eq_getElem hi]; rfl
theorem c_houses (H : BdH h n B) (O : BoOK B) : cal (d + 1) m_Bd_houses [(100, (n : Int))] h = some (2 * B.w, h) := by
  have := O.w2; have := O.w5
  rw [k_Bd_houses, H.rw]
  show some (a_mul 2 B.w, h) = _
  rw [mul_id (by omega) (by omega)]
theorem c_has (H : BdH h n B) (O : BoOK B) (i : Int) : cal (d + 2) m_Bd_has [(100, (n : Int)), (0, i)] h = some (bI (decide (0 ≤ i ∧ i < 2 * B.w)), h) := by
  rw [k_Bd_has, c_houses H O]
  show (if i < 0 then some (0, h) else if i < 2 * B.w then some (1, h) else some (0, h)) = _
  unfold bI
  by_cases a : i < 0
  · have : ¬ (0 ≤ i) := by omega
    simp [a, this]
  · have : 0 ≤ i := by omega
    by_cases b : i < 2 * B.w <;> simp [a, b, this]
def sd (w : Int) (i : Int) : Int := if i < w then 0 else 1
theorem c_sideOf (H : BdH h n B) (i : Int) : cal (d + 1) m_Bd_sideOf [(100, (n : Int)), (0, i)] h = some (sd B.w i, h) := by
  rw [k_Bd_sideOf, H.rw]
  show (if i < B.w then some (0, h) else some (1, h)) = _
  unfold sd
  by_cases a : i < B.w <;> simp [a]
theorem BdH.kA (H : BdH h n B) (O : BoOK B) {i : Int} (h0 : 0 ≤ i) (h1 : i < 10) : rda 20 h ((n + 1 : Nat) : Int) i = some (B.ks.getD i.toNat 0) := by rw [rda_i H.c1 h0]; exact getD_some (by rw [O.kl]; omega)
theorem BdH.sA (H : BdH h n B) (O : BoOK B) {i : Int} (h0 : 0 ≤ i) (h1 : i < 10) : rda 20 h ((n + 2 : Nat) : Int) i = some (B.ss.getD i.toNat 0) := by rw [rda_i H.c2 h0]; exact getD_some (by rw [O.sl]; omega)
def Bo.ki (B : Bo) (i : Int) : Int := B.ks.getD i.toNat 0
def Bo.si (B : Bo) (i : Int) : Int := B.ss.getD i.toNat 0
def Bo.li (B : Bo) (i : Int) : Int := Lk (B.ki i) (B.si i)
def Bo.tk (B : Bo) (i : Int) : Bool := Tk (B.ki i) (B.si i)
def Bo.yl (B : Bo) (i : Int) : Bool := Yk (B.ki i) (B.si i)
def Bo.go (B : Bo) (i : Int) : Bool := decide (sd B.w i = B.t) && decide (1 ≤ B.li i)
theorem c_kind (H : BdH h n B) (O : BoOK B) {i : Int} (h0 : 0 ≤ i) (h1 : i < 10) : cal (d + 1) m_Bd_kind [(100, (n : Int)), (0, i)] h = some (B.ki i, h) := by rw [k_Bd_kind, H.rk, Option.bind_some, H.kA O h0 h1]; rfl
theorem c_seeds (H : BdH h n B) (O : BoOK B) {i : Int} (h0 : 0 ≤ i) (h1 : i < 10) : cal (d + 1) m_Bd_seeds [(100, (n : Int)), (0, i)] h = some (B.si i, h) := by rw [k_Bd_seeds, H.rs, Option.bind_some, H.sA O h0 h1]; rfl
theorem bI01 (b : Bool) : bI b = 0 ∨ bI b = 1 := by cases b <;> simp [bI]
theorem bI0 (b : Bool) : (bI b = 0) = (b = false) := by cases b <;> simp [bI]
theorem c_bLifted (H : BdH h n B) (O : BoOK B) {i : Int} (h0 : 0 ≤ i) (h1 : i < 10) : cal (d + 2) m_Bd_lifted [(100, (n : Int)), (0, i)] h = some (B.li i, h) := by
  have := O.sr i.toNat (by omega)
  rw [k_Bd_lifted, H.rk, Option.bind_some, H.kA O h0 h1, Option.bind_some, H.rs, Option.bind_some, H.sA O h0 h1, Option.bind_some, c_lifted (by omega) (by omega)]; rfl
theorem c_bTakes (H : BdH h n B) (O : BoOK B) {i : Int} (h0 : 0 ≤ i) (h1 : i < 10) : cal (d + 2) m_Bd_takes [(100, (n : Int)), (0, i)] h = some (bI (B.tk i), h) := by
  rw [k_Bd_takes, H.rk, Option.bind_some, H.kA O h0 h1, Option.bind_some, H.rs, Option.bind_some, H.sA O h0 h1, Option.bind_some, c_takes, Option.bind_some]; exact if_pos (bI01 _)
theorem c_bYields (H : BdH h n B) (O : BoOK B) {i : Int} (h0 : 0 ≤ i) (h1 : i < 10) : cal (d + 2) m_Bd_yields [(100, (n : Int)), (0, i)] h = some (bI (B.yl i), h) := by
  rw [k_Bd_yields, H.rk, Option.bind_some, H.kA O h0 h1, Option.bind_some, H.rs, Option.bind_some, H.sA O h0 h1, Option.bind_some, c_yields, Option.bind_some]; exact if_pos (bI01 _)
theorem c_bGoes (H : BdH h n B) (O : BoOK B) {i : Int} (h0 : 0 ≤ i) (h1 : i < 10) : cal (d + 3) m_Bd_goes [(100, (n : Int)), (0, i)] h = some (bI (B.go i), h) := by
  rw [k_Bd_goes, c_sideOf H, Option.bind_some]
  show (rdf 0 h (n : Int) 4).bind _ = _
  rw [H.rt, Option.bind_some]
  show (if sd B.w i = B.t then (cal (d + 2) m_Bd_lifted [(100, (n : Int)), (0, i)] h).bind _ else some (0, h)) = _
  rw [c_bLifted H O h0 h1, Option.bind_some]
  unfold Bo.go bI
  by_cases a : sd B.w i = B.t
  · by_cases b : B.li i < 1
    · have : ¬ 1 ≤ B.li i := by omega
      simp [a, b, this]
    · have : 1 ≤ B.li i := by omega
      simp [a, b, this]
  · simp [a]
end BD
