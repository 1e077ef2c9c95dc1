/-! Inversions of a step; numbers. -/
theorem p1_inv {t : Nat} {st : List AV} {k : Int → List AV → AR} {r : Int × AH} (e : am_p1 t st k = some r) : ∃ x st', st = (t, x) :: st' ∧ k x st' = some r := by
  unfold am_p1 at e
  cases st with
  | nil => cases e
  | cons v r' =>
    dsimp only at e
    cases hb : Nat.beq v.1 t with
    | false => rw [hb] at e; cases e
    | true =>
      rw [hb] at e
      have : v.1 = t := Nat.eq_of_beq_eq_true hb
      subst this
      exact ⟨v.2, r', rfl, e⟩
theorem ld_inv {t i : Nat} {ls st : List AV} {k : List AV → AR} {r : Int × AH} (e : am_ld t i ls st k = some r) : ∃ x, ls[i]? = some (t, x) ∧ k ((t, x) :: st) = some r := by
  unfold am_ld at e
  rw [nth_get] at e
  cases hv : ls[i]? with
  | none => rw [hv] at e; cases e
  | some v =>
    rw [hv] at e
    dsimp only at e
    cases hb : Nat.beq v.1 t with
    | false => rw [hb] at e; cases e
    | true =>
      rw [hb] at e
      have : v.1 = t := Nat.eq_of_beq_eq_true hb
      subst this
      exact ⟨v.2, rfl, e⟩
theorem lda_inv {i : Nat} {ls st : List AV} {k : List AV → AR} {r : Int × AH} (e : am_lda i ls st k = some r) : ∃ v, ls[i]? = some v ∧ (v.1 = 3 ∨ 100 ≤ v.1) ∧ k (v :: st) = some r := by
  unfold am_lda at e
  rw [nth_get] at e
  cases hv : ls[i]? with
  | none => rw [hv] at e; cases e
  | some v =>
    rw [hv] at e
    dsimp only at e
    cases hb : am_isr v.1 with
    | false => rw [hb] at e; cases e
    | true =>
      rw [hb] at e
      refine ⟨v, rfl, ?_, e⟩
      simp only [am_isr, Bool.or_eq_true] at hb
      rcases hb with q | q
      · exact Or.inr (Nat.le_of_ble_eq_true q)
      · exact Or.inl (Nat.eq_of_beq_eq_true q)
theorem ldl_inv {i : Nat} {ls st : List AV} {k : List AV → AR} {r : Int × AH} (e : am_ldl i ls st k = some r) : ∃ x u, ls[i]? = some (2, x) ∧ ls[i + 1]? = some u ∧ u.1 = 8 ∧ k ((2, x) :: st) = some r := by
  unfold am_ldl at e
  rw [nth_get, nth_get] at e
  cases hv : ls[i]? with
  | none => rw [hv] at e; cases e
  | some v =>
    rw [hv] at e
    dsimp only at e
    cases hu : ls[i + 1]? with
    | none => rw [hu] at e; cases e
    | some u =>
      rw [hu] at e
      dsimp only at e
      cases hb : Nat.beq v.1 2 && Nat.beq u.1 8 with
      | false => rw [hb] at e; cases e
      | true =>
        rw [hb] at e
        simp only [Bool.and_eq_true] at hb
        have : v.1 = 2 := Nat.eq_of_beq_eq_true hb.1
        obtain ⟨t, x⟩ := v
        subst this
        exact ⟨x, u, rfl, rfl, Nat.eq_of_beq_eq_true hb.2, e⟩
theorem st_inv {t i : Nat} {ls st : List AV} {k : List AV → List AV → AR} {r : Int × AH} (e : am_st t i ls st k = some r) : ∃ x st', st = (t, x) :: st' ∧ i < ls.length ∧ k (ls.set i (t, x)) st' = some r := by
  unfold am_st at e
  cases st with
  | nil => cases e
  | cons v r' =>
    dsimp only at e
    cases hb : Nat.beq v.1 t && Nat.ble (i + 1) ls.length with
    | false => rw [hb] at e; cases e
    | true =>
      rw [hb] at e
      simp only [Bool.and_eq_true] at hb
      have : v.1 = t := Nat.eq_of_beq_eq_true hb.1
      subst this
      rw [setL_set] at e
      exact ⟨v.2, r', rfl, Nat.le_of_ble_eq_true hb.2, e⟩
theorem sta_inv {i : Nat} {ls st : List AV} {k : List AV → List AV → AR} {r : Int × AH} (e : am_sta i ls st k = some r) : ∃ v st', st = v :: st' ∧ (v.1 = 3 ∨ 100 ≤ v.1) ∧ i < ls.length ∧ k (ls.set i v) st' = some r := by
  unfold am_sta at e
  cases st with
  | nil => cases e
  | cons v r' =>
    dsimp only at e
    cases hb : am_isr v.1 && Nat.ble (i + 1) ls.length with
    | false => rw [hb] at e; cases e
    | true =>
      rw [hb] at e
      simp only [Bool.and_eq_true] at hb
      rw [setL_set] at e
      refine ⟨v, r', rfl, ?_, Nat.le_of_ble_eq_true hb.2, e⟩
      have hb1 := hb.1
      simp only [am_isr, Bool.or_eq_true] at hb1
      rcases hb1 with q | q
      · exact Or.inr (Nat.le_of_ble_eq_true q)
      · exact Or.inl (Nat.eq_of_beq_eq_true q)
theorem stl_inv {i : Nat} {ls st : List AV} {k : List AV → List AV → AR} {r : Int × AH} (e : am_stl i ls st k = some r) : ∃ x st', st = (2, x) :: st' ∧ i + 1 < ls.length ∧ k ((ls.set i (2, x)).set (i + 1) (8, 0)) st' = some r := by
  unfold am_stl at e
  cases st with
  | nil => cases e
  | cons v r' =>
    dsimp only at e
    cases hb : Nat.beq v.1 2 && Nat.ble (i + 2) ls.length with
    | false => rw [hb] at e; cases e
    | true =>
      rw [hb] at e
      simp only [Bool.and_eq_true] at hb
      obtain ⟨t, x⟩ := v
      have : t = 2 := Nat.eq_of_beq_eq_true hb.1
      subst this
      rw [setL_set, setL_set] at e
      exact ⟨x, r', rfl, Nat.le_of_ble_eq_true hb.2, e⟩
theorem cond_inv {b : Bool} {x : AR} {r : Int × AH} (e : cond b x none = some r) : b = true ∧ x = some r := by
  cases b with
  | false => cases e
  | true => exact ⟨rfl, e⟩
theorem condN_inv {b : Bool} {x : AR} {r : Int × AH} (e : cond b none x = some r) : b = false ∧ x = some r := by
  cases b with
  | true => cases e
  | false => exact ⟨rfl, e⟩
theorem bind_inv {α : Type} {o : Option α} {k : α → AR} {r : Int × AH} (e : o.bind k = some r) : ∃ a, o = some a ∧ k a = some r := Option.bind_eq_some_iff.mp e
theorem ite_inv {c : Prop} [Decidable c] {x : AR} {r : Int × AH} (e : (if c then x else none) = some r) : c ∧ x = some r := by
  by_cases h : c
  · rw [if_pos h] at e; exact ⟨h, e⟩
  · rw [if_neg h] at e; cases e
theorem iteN_inv {c : Prop} [Decidable c] {x : AR} {r : Int × AH} (e : (if c then none else x) = some r) : ¬ c ∧ x = some r := by
  by_cases h : c
  · rw [if_pos h] at e; cases e
  · rw [if_neg h] at e; exact ⟨h, e⟩
theorem rdf_inv {t : Nat} {h : AH} {a : Int} {k : Nat} {v : Int} (e : rdf t h a k = some v) : ∃ xs, 0 ≤ a ∧ h[a.toNat]? = some (t, xs) ∧ xs[k]? = some v := by
  unfold rdf at e
  obtain ⟨xs, h1, h2⟩ := Option.bind_eq_some_iff.mp e
  obtain ⟨h3, h4⟩ := am_cl_spec h1
  exact ⟨xs, h3, h4, h2⟩
theorem rdr_inv {t : Nat} {h : AH} {a : Int} {k : Nat} {v : Int} (e : rdr t h a k = some v) : ∃ xs, 0 ≤ a ∧ h[a.toNat]? = some (t, xs) ∧ xs[k]? = some v ∧ 0 ≤ v := by
  unfold rdr at e
  obtain ⟨w, h1, h2⟩ := Option.bind_eq_some_iff.mp e
  obtain ⟨xs, h3, h4, h5⟩ := rdf_inv h1
  by_cases hw : 0 ≤ w
  · rw [if_pos hw] at h2; cases h2; exact ⟨xs, h3, h4, h5, hw⟩
  · rw [if_neg hw] at h2; cases h2
theorem rda_inv {t : Nat} {h : AH} {a i v : Int} (e : rda t h a i = some v) : ∃ xs, 0 ≤ a ∧ h[a.toNat]? = some (t, xs) ∧ 0 ≤ i ∧ xs[i.toNat]? = some v := by
  unfold rda at e
  by_cases hi : 0 ≤ i
  · rw [if_pos hi] at e
    obtain ⟨xs, h3, h4, h5⟩ := rdf_inv e
    exact ⟨xs, h3, h4, hi, h5⟩
  · rw [if_neg hi] at e; cases e
theorem rdar_inv {t : Nat} {h : AH} {a i v : Int} (e : rdar t h a i = some v) : ∃ xs, 0 ≤ a ∧ h[a.toNat]? = some (t, xs) ∧ 0 ≤ i ∧ xs[i.toNat]? = some v ∧ 0 ≤ v := by
  unfold rdar at e
  by_cases hi : 0 ≤ i
  · rw [if_pos hi] at e
    obtain ⟨xs, h3, h4, h5, h6⟩ := rdr_inv e
    exact ⟨xs, h3, h4, hi, h5, h6⟩
  · rw [if_neg hi] at e; cases e
theorem wrf_inv {t : Nat} {h h' : AH} {a : Int} {k : Nat} {v : Int} (e : wrf t h a k v = some h') : ∃ xs, 0 ≤ a ∧ h[a.toNat]? = some (t, xs) ∧ k < xs.length ∧ h' = h.set a.toNat (t, xs.set k v) := by
  unfold wrf at e
  obtain ⟨xs, h1, h2⟩ := Option.bind_eq_some_iff.mp e
  obtain ⟨h3, h4⟩ := am_cl_spec h1
  by_cases hk : k < xs.length
  · rw [if_pos hk] at h2; cases h2; exact ⟨xs, h3, h4, hk, rfl⟩
  · rw [if_neg hk] at h2; cases h2
theorem wrfb_inv {t : Nat} {h h' : AH} {a : Int} {k : Nat} {v : Int} (e : wrfb t h a k v = some h') : (v = 0 ∨ v = 1) ∧ wrf t h a k v = some h' := by
  unfold wrfb at e
  by_cases hv : v = 0 ∨ v = 1
  · rw [if_pos hv] at e; exact ⟨hv, e⟩
  · rw [if_neg hv] at e; cases e
theorem wra_inv {t : Nat} {h h' : AH} {a i v : Int} (e : wra t h a i v = some h') : ∃ xs, 0 ≤ a ∧ h[a.toNat]? = some (t, xs) ∧ 0 ≤ i ∧ i.toNat < xs.length ∧ h' = h.set a.toNat (t, xs.set i.toNat v) := by
  unfold wra at e
  by_cases hi : 0 ≤ i
  · rw [if_pos hi] at e
    obtain ⟨xs, h3, h4, h5, h6⟩ := wrf_inv e
    exact ⟨xs, h3, h4, hi, h5, h6⟩
  · rw [if_neg hi] at e; cases e
theorem wrab_inv {t : Nat} {h h' : AH} {a i v : Int} (e : wrab t h a i v = some h') : (v = 0 ∨ v = 1) ∧ wra t h a i v = some h' := by
  unfold wrab at e
  by_cases hv : v = 0 ∨ v = 1
  · rw [if_pos hv] at e; exact ⟨hv, e⟩
  · rw [if_neg hv] at e; cases e
theorem wrac_inv {t : Nat} {h h' : AH} {a i v : Int} (e : wrac t h a i v = some h') : (0 ≤ v ∧ v < 65536) ∧ wra t h a i v = some h' := by
  unfold wrac at e
  by_cases hv : 0 ≤ v ∧ v < 65536
  · rw [if_pos hv] at e; exact ⟨hv, e⟩
  · rw [if_neg hv] at e; cases e
theorem wrcp_inv {h h' : AH} {a b n : Int} (e : wrcp h a b n = some h') : ∃ xs ys, 0 ≤ a ∧ h[a.toNat]? = some (20, xs) ∧ 0 ≤ b ∧ h[b.toNat]? = some (20, ys) ∧ 0 ≤ n ∧ n.toNat ≤ xs.length ∧ n.toNat ≤ ys.length ∧ h' = h.set b.toNat (20, a_cpy xs ys n) := by
  unfold wrcp at e
  obtain ⟨xs, h1, h2⟩ := Option.bind_eq_some_iff.mp e
  obtain ⟨ys, h3, h4⟩ := Option.bind_eq_some_iff.mp h2
  obtain ⟨h5, h6⟩ := am_cl_spec h1
  obtain ⟨h7, h8⟩ := am_cl_spec h3
  by_cases hn : 0 ≤ n ∧ n.toNat ≤ xs.length ∧ n.toNat ≤ ys.length
  · rw [if_pos hn] at h4; cases h4; exact ⟨xs, ys, h5, h6, h7, h8, hn.1, hn.2.1, hn.2.2, rfl⟩
  · rw [if_neg hn] at h4; cases h4
/-! numbers -/
theorem inI_of (z : Int32) : inI z.toInt := ⟨by have := z.le_toInt; omega, by have := z.toInt_lt; omega⟩
theorem inL_of (z : Int64) : inL z.toInt := ⟨by have := z.le_toInt; omega, by have := z.toInt_lt; omega⟩
theorem toI {x : Int} (h : inI x) : (Int32.ofInt x).toInt = x := Int32.toInt_ofInt_of_le (by have := h.1; omega) (by have := h.2; omega)
theorem toL {x : Int} (h : inL x) : (Int64.ofInt x).toInt = x := Int64.toInt_ofInt_of_le (by have := h.1; omega) (by have := h.2; omega)
theorem eqI {x y : Int} (hx : inI x) (hy : inI y) : Int32.ofInt x = Int32.ofInt y ↔ x = y := by rw [← Int32.toInt_inj, toI hx, toI hy]
theorem ltI {x y : Int} (hx : inI x) (hy : inI y) : Int32.ofInt x < Int32.ofInt y ↔ x < y := by rw [Int32.lt_iff_toInt_lt, toI hx, toI hy]
theorem leI {x y : Int} (hx : inI x) (hy : inI y) : Int32.ofInt x ≤ Int32.ofInt y ↔ x ≤ y := by rw [Int32.le_iff_toInt_le, toI hx, toI hy]
theorem eqL {x y : Int} (hx : inL x) (hy : inL y) : Int64.ofInt x = Int64.ofInt y ↔ x = y := by rw [← Int64.toInt_inj, toL hx, toL hy]
theorem ltL {x y : Int} (hx : inL x) (hy : inL y) : Int64.ofInt x < Int64.ofInt y ↔ x < y := by rw [Int64.lt_iff_toInt_lt, toL hx, toL hy]
theorem inI0 : inI 0 := ⟨by omega, by omega⟩
theorem clI {x : Int} (h : inI x) : (Int32.ofInt x).toNatClampNeg = x.toNat := by
  show (Int32.ofInt x).toInt.toNat = _
  rw [toI h]
theorem ngI {x : Int} (h : inI x) : Int32.ofInt x < 0 ↔ x < 0 := ltI (y := 0) h inI0
theorem vin {x : Int} {n : Nat} (h : inI x) (h0 : 0 ≤ x) (hn : x.toNat < n) : vp_in (Int32.ofInt x) n := by
  intro q
  rw [ngI h, clI h] at q
  rcases q with q | q <;> omega
theorem oAdd (x y : Int) : Int32.ofInt (a_add x y) = Int32.ofInt x + Int32.ofInt y ∧ inI (a_add x y) := by
  rw [a_add_def, w32_def, Int32.ofInt_toInt, Int32.ofInt_add]; exact ⟨rfl, inI_of _⟩
theorem oSub (x y : Int) : Int32.ofInt (a_sub x y) = Int32.ofInt x - Int32.ofInt y ∧ inI (a_sub x y) := by
  rw [a_sub_def, w32_def, Int32.ofInt_toInt, Int32.ofInt_sub]; exact ⟨rfl, inI_of _⟩
theorem oMul (x y : Int) : Int32.ofInt (a_mul x y) = Int32.ofInt x * Int32.ofInt y ∧ inI (a_mul x y) := by
  rw [a_mul_def, w32_def, Int32.ofInt_toInt, Int32.ofInt_mul]; exact ⟨rfl, inI_of _⟩
theorem oNeg (x : Int) : Int32.ofInt (a_neg x) = -Int32.ofInt x ∧ inI (a_neg x) := by
  rw [a_neg_def, w32_def, Int32.ofInt_toInt, Int32.ofInt_neg]; exact ⟨rfl, inI_of _⟩
theorem oDiv (x y : Int) : Int32.ofInt (a_div x y) = Int32.ofInt x / Int32.ofInt y ∧ inI (a_div x y) := by
  rw [a_div_def, Int32.ofInt_toInt]; exact ⟨rfl, inI_of _⟩
theorem oRem (x y : Int) : Int32.ofInt (a_rem x y) = Int32.ofInt x - Int32.ofInt x / Int32.ofInt y * Int32.ofInt y ∧ inI (a_rem x y) := by
  rw [a_rem_def, Int32.ofInt_toInt]; exact ⟨rfl, inI_of _⟩
theorem oAnd (x y : Int) : Int32.ofInt (a_and x y) = Int32.ofInt x &&& Int32.ofInt y ∧ inI (a_and x y) := by
  rw [a_and_def, Int32.ofInt_toInt]; exact ⟨rfl, inI_of _⟩
theorem oOr (x y : Int) : Int32.ofInt (a_or x y) = Int32.ofInt x ||| Int32.ofInt y ∧ inI (a_or x y) := by
  rw [a_or_def, Int32.ofInt_toInt]; exact ⟨rfl, inI_of _⟩
theorem oShl (x y : Int) : Int32.ofInt (a_shl x y) = Int32.ofInt x <<< (Int32.ofInt y &&& 31) ∧ inI (a_shl x y) := by
  rw [a_shl_def, Int32.ofInt_toInt]; exact ⟨rfl, inI_of _⟩
theorem oShr (x y : Int) : Int32.ofInt (a_shr x y) = Int32.ofInt x >>> (Int32.ofInt y &&& 31) ∧ inI (a_shr x y) := by
  rw [a_shr_def, Int32.ofInt_toInt]; exact ⟨rfl, inI_of _⟩
theorem oUshr (x y : Int) : Int32.ofInt (a_ushr x y) = ((Int32.ofInt x).toUInt32 >>> ((Int32.ofInt y).toUInt32 &&& Int32.toUInt32 31)).toInt32 ∧ inI (a_ushr x y) := by
  rw [a_ushr_def, Int32.ofInt_toInt]; exact ⟨rfl, inI_of _⟩
theorem oI2c (x : Int) : Int32.ofInt (a_i2c x) = ((Int32.ofInt x).toUInt32 % 65536).toInt32 ∧ inI (a_i2c x) := by
  rw [a_i2c_def, Int32.ofInt_toInt]; exact ⟨rfl, inI_of _⟩
theorem oLadd (x y : Int) : Int64.ofInt (a_ladd x y) = Int64.ofInt x + Int64.ofInt y ∧ inL (a_ladd x y) := by
  rw [a_ladd_def, w64_def, Int64.ofInt_toInt, Int64.ofInt_add]; exact ⟨rfl, inL_of _⟩
theorem oLmul (x y : Int) : Int64.ofInt (a_lmul x y) = Int64.ofInt x * Int64.ofInt y ∧ inL (a_lmul x y) := by
  rw [a_lmul_def, w64_def, Int64.ofInt_toInt, Int64.ofInt_mul]; exact ⟨rfl, inL_of _⟩
theorem oLdiv (x y : Int) : Int64.ofInt (a_ldiv x y) = Int64.ofInt x / Int64.ofInt y ∧ inL (a_ldiv x y) := by
  rw [a_ldiv_def, Int64.ofInt_toInt]; exact ⟨rfl, inL_of _⟩
theorem oLrem (x y : Int) : Int64.ofInt (a_lrem x y) = Int64.ofInt x - Int64.ofInt x / Int64.ofInt y * Int64.ofInt y ∧ inL (a_lrem x y) := by
  rw [a_lrem_def, Int64.ofInt_toInt]; exact ⟨rfl, inL_of _⟩
theorem oLor (x y : Int) : Int64.ofInt (a_lor x y) = Int64.ofInt x ||| Int64.ofInt y ∧ inL (a_lor x y) := by
  rw [a_lor_def, Int64.ofInt_toInt]; exact ⟨rfl, inL_of _⟩
theorem oLshl (x y : Int) : Int64.ofInt (a_lshl x y) = Int64.ofInt x <<< ((Int32.ofInt y).toInt64 &&& 63) ∧ inL (a_lshl x y) := by
  rw [a_lshl_def, Int64.ofInt_toInt]; exact ⟨rfl, inL_of _⟩
theorem oLcmp {x y : Int} (hx : inL x) (hy : inL y) : Int32.ofInt (a_lcmp x y) = lg_cmp (Int64.ofInt x) (Int64.ofInt y) ∧ inI (a_lcmp x y) := by
  rw [a_lcmp_def]
  unfold lg_cmp
  by_cases h1 : y < x
  · rw [if_pos h1, if_pos ((ltL hy hx).mpr h1)]; exact ⟨rfl, by constructor <;> omega⟩
  · rw [if_neg h1, if_neg (fun q => h1 ((ltL hy hx).mp q))]
    by_cases h2 : x = y
    · subst h2; simp [inI]
    · rw [if_neg h2, if_neg (fun q => h2 ((eqL hx hy).mp q))]; exact ⟨rfl, by constructor <;> omega⟩
theorem oMax {x y : Int} (hx : inI x) (hy : inI y) : Int32.ofInt (a_max x y) = (if Int32.ofInt x < Int32.ofInt y then Int32.ofInt y else Int32.ofInt x) ∧ inI (a_max x y) := by
  rw [a_max_def]
  by_cases h1 : x < y
  · rw [if_pos h1, if_pos ((ltI hx hy).mpr h1)]; exact ⟨rfl, hy⟩
  · rw [if_neg h1, if_neg (fun q => h1 ((ltI hx hy).mp q))]; exact ⟨rfl, hx⟩
theorem oMin {x y : Int} (hx : inI x) (hy : inI y) : Int32.ofInt (a_min x y) = (if Int32.ofInt y < Int32.ofInt x then Int32.ofInt y else Int32.ofInt x) ∧ inI (a_min x y) := by
  rw [a_min_def]
  by_cases h1 : y < x
  · rw [if_pos h1, if_pos ((ltI hy hx).mpr h1)]; exact ⟨rfl, hy⟩
  · rw [if_neg h1, if_neg (fun q => h1 ((ltI hy hx).mp q))]; exact ⟨rfl, hx⟩
theorem oI2l {x : Int} (hx : inI x) : (Int32.ofInt x).toInt64 = Int64.ofInt x ∧ inL x := by
  have hL : inL x := ⟨by have := hx.1; omega, by have := hx.2; omega⟩
  refine ⟨?_, hL⟩
  rw [← Int64.toInt_inj, Int32.toInt_toInt64, toI hx, toL hL]
theorem oL2i (x : Int) : (Int64.ofInt x).toInt32 = Int32.ofInt (w32 x) ∧ inI (w32 x) := by
  rw [w32_def, Int32.ofInt_toInt, Int64.toInt32_ofInt]; exact ⟨rfl, inI_of _⟩
theorem oBi {n : Int} (h : -128 ≤ n ∧ n < 128) : (Int8.ofInt n).toInt32 = Int32.ofInt n ∧ inI n := by
  have hI : inI n := ⟨by omega, by omega⟩
  refine ⟨?_, hI⟩
  rw [← Int32.toInt_inj, Int8.toInt_toInt32, toI hI]
  exact Int8.toInt_ofInt_of_le (by omega) (by omega)
theorem oSi {n : Int} (h : -32768 ≤ n ∧ n < 32768) : (Int16.ofInt n).toInt32 = Int32.ofInt n ∧ inI n := by
  have hI : inI n := ⟨by omega, by omega⟩
  refine ⟨?_, hI⟩
  rw [← Int32.toInt_inj, Int16.toInt_toInt32, toI hI]
  exact Int16.toInt_ofInt_of_le (by omega) (by omega)
def tot (h : AH) : Nat := (h.map (fun c => c.2.length)).sum
theorem tot_set {h : AH} {k t : Nat} {xs ys : List Int} (hc : h[k]? = some (t, xs)) (hl : ys.length = xs.length) : tot (h.set k (t, ys)) = tot h := by
  unfold tot
  congr 1
  apply List.ext_getElem?
  intro j
  rw [List.getElem?_map, List.getElem?_map, List.getElem?_set]
  by_cases hj : k = j
  · subst hj
    rw [if_pos rfl, if_pos (List.getElem?_eq_some_iff.mp hc).1, hc]
    simp [hl]
  · rw [if_neg hj]
theorem tot_push (h : AH) (c : Nat × List Int) : tot (h ++ [c]) = tot h + c.2.length := by
  unfold tot
  simp
theorem cv0 (G : AG) (as : List Nat) (x : Int) : cvv G as (0, x) = .int (Int32.ofInt x) := rfl
theorem cv2 (G : AG) (as : List Nat) (x : Int) : cvv G as (2, x) = .long (Int64.ofInt x) := rfl
theorem cv3 (G : AG) (as : List Nat) (x : Int) : cvv G as (3, x) = .ref (gK G x.toNat) := rfl
theorem cvR (G : AG) (as : List Nat) {t : Nat} (ht : 100 ≤ t) (x : Int) : cvv G as (t, x) = .ref (adr as x) := by
  unfold cvv
  rw [if_neg (show ¬ t = 0 by omega), if_neg (show ¬ t = 2 by omega), if_neg (show ¬ t = 3 by omega)]
theorem ok0 {tg : List Nat} {x : Int} (h : okv tg (0, x)) : inI x := by
  rcases h with ⟨-, a⟩ | ⟨a, -⟩ | ⟨a, -⟩ | ⟨a, -⟩
  · exact a
  · cases a
  · cases a
  · exact absurd a (by omega)
theorem ok2 {tg : List Nat} {x : Int} (h : okv tg (2, x)) : inL x := by
  rcases h with ⟨a, -⟩ | ⟨-, a⟩ | ⟨a, -⟩ | ⟨a, -⟩
  · cases a
  · exact a
  · cases a
  · exact absurd a (by omega)
theorem okR {tg : List Nat} {t : Nat} {x : Int} (ht : 100 ≤ t) (h : okv tg (t, x)) : 0 ≤ x ∧ tg[x.toNat]? = some (t - 100) := by
  rcases h with ⟨a, -⟩ | ⟨a, -⟩ | ⟨a, -⟩ | ⟨-, a⟩
  · have : t = 0 := a; omega
  · have : t = 2 := a; omega
  · have : t = 3 := a; omega
  · exact a
