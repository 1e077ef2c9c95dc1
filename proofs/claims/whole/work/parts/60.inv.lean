/-! The whole state, on both sides. -/
def GB (B : Bo) : Prop := BoOK B ∧ B.b0 ≤ 99 + 495 * B.m ∧ B.b1 ≤ 99 + 495 * B.m
/-- a board of the class, and the model's, of the same look -/
def Pr (B C : Bo) : Prop := GB B ∧ GB C ∧ B.m ≤ 999 ∧ EqB B C
/-- a row of 25 stands in xs from place o on -/
def At (xs : List Int) (o : Nat) (r : List Int) : Prop := ∀ k : Nat, k < 25 → xs[o + k]? = r[k]?
def LnI (h : AH) (n t l : Nat) : Prop := ∃ xs : List Int, h[n]? = some (t, xs) ∧ xs.length = l
def SsI (h : AH) (un : Int) : Prop := h[2]? = some (6, [3, 7, 11, 15, 16, 17, 18, 20, 46, 51, un])
def MhI (h : AH) (le un ke ma : Int) : Prop := ∃ pl be to va br la : Int, h[108]? = some (7, hM le pl be to va br un ke la ma)
def NoI (h : AH) (B C : Bo) : Prop := BdH h 11 B ∧ h[109]? = some (20, row C) ∧ Pr B C
def ToI (h : AH) : Prop := ∃ T T' D : Bo, BdH h 3 T ∧ BdH h 7 D ∧ h[110]? = some (20, row T') ∧ Pr T T' ∧ BoOK D
def PaI (h : AH) (un : Int) : Prop := 0 ≤ un ∧ un ≤ 8 ∧ ∃ (ps : Nat → Nat) (P C : Nat → Bo) (R : List Int), h[15]? = some (24, (List.range 8).map (fun i => (ps i : Int))) ∧ h[113]? = some (20, R) ∧ R.length = 200 ∧ (∀ i, i < 8 → 68 ≤ ps i ∧ ps i < 100 ∧ ps i % 4 = 0) ∧ (∀ i j, i < 8 → j < 8 → ps i = ps j → i = j) ∧ (∀ k, k < 8 → ∃ D : Bo, BdH h (68 + 4 * k) D ∧ BoOK D) ∧ (∀ i : Nat, (i : Int) < un → BdH h (ps i) (P i) ∧ Pr (P i) (C i) ∧ At R (25 * i) (row (C i)))
def KeI (h : AH) (ke : Int) : Prop := ∃ (k0 k1 : Int) (K0 K1 C0 C1 : Bo) (R : List Int), h[16]? = some (24, [100, 104]) ∧ h[17]? = some (21, [k0, k1]) ∧ BdH h 100 K0 ∧ BdH h 104 K1 ∧ BoOK K0 ∧ BoOK K1 ∧ h[114]? = some (20, R) ∧ R.length = 50 ∧ (k0 = 0 ∨ k0 = 1) ∧ (k1 = 0 ∨ k1 = 1) ∧ ke = k0 + 2 * k1 ∧ (k0 = 1 → Pr K0 C0 ∧ At R 0 (row C0)) ∧ (k1 = 1 → Pr K1 C1 ∧ At R 25 (row C1))
def TeI (h : AH) (le : Int) : Prop := 0 ≤ le ∧ le ≤ 200 ∧ ∃ L : List Int, h[19]? = some (22, L) ∧ h[111]? = some (20, L) ∧ L.length = 200 ∧ (∀ j : Nat, j < 200 → 0 ≤ L.getD j 0 ∧ L.getD j 0 ≤ 255) ∧ ∃ cl st en : Int, h[18]? = some (5, [19, le, cl, st, en])
def FoI (h : AH) : Prop := (∃ ch : Int, h[20]? = some (3, [21, ch])) ∧ h[21]? = some (24, [22, 26, 30, 34, 38, 42]) ∧ ∀ i : Nat, i < 6 → ∃ B : Bo, BdH h (22 + 4 * i) B ∧ BoOK B
def WoI (h : AH) : Prop := LnI h 112 20 25 ∧ LnI h 115 20 25 ∧ LnI h 116 20 175 ∧ LnI h 117 20 6 ∧ LnI h 118 20 6 ∧ LnI h 119 21 6 ∧ LnI h 120 20 36 ∧ LnI h 121 23 6 ∧ LnI h 128 20 24 ∧ LnI h 129 20 24
def SiR (s1 s2 s3 s4 s5 : List Int) : Prop := s1.length = 6 ∧ s2.length = 6 ∧ s3.length = 6 ∧ s4.length = 6 ∧ s5.length = 24 ∧ ∀ k : Nat, k < 6 → (0 ≤ s1.getD k 0 ∧ s1.getD k 0 ≤ 20) ∧ (0 ≤ s2.getD k 0 ∧ s2.getD k 0 ≤ 20) ∧ (s3.getD k 0 = 0 ∨ s3.getD k 0 = 1) ∧ (s4.getD k 0 = 0 ∨ s4.getD k 0 = 1) ∧ s5.getD (4 * k) 0 = s1.getD k 0 ∧ s5.getD (4 * k + 1) 0 = s2.getD k 0 ∧ s5.getD (4 * k + 2) 0 = s3.getD k 0 ∧ s5.getD (4 * k + 3) 0 = s4.getD k 0
def SiI (h : AH) (ma : Int) : Prop := 0 ≤ ma ∧ ma ≤ 6 ∧ ∃ s1 s2 s3 s4 s5 : List Int, h[46]? = some (4, [47, 48, 49, 50, ma]) ∧ h[47]? = some (20, s1) ∧ h[48]? = some (20, s2) ∧ h[49]? = some (21, s3) ∧ h[50]? = some (21, s4) ∧ h[122]? = some (20, s5) ∧ SiR s1 s2 s3 s4 s5
def BxH (h : AH) (i : Nat) (r s t n : Int) (w v : List Int) : Prop := h[53 + 3 * i]? = some (1, [((54 + 3 * i : Nat) : Int), ((55 + 3 * i : Nat) : Int), r, s, t, n]) ∧ h[54 + 3 * i]? = some (20, w) ∧ h[55 + 3 * i]? = some (20, v)
/-- the boxes, well formed -/
def BxM (r s t n : Nat → Int) (w v : Nat → List Int) : Prop :=
  (∀ i, i < 5 → (t i = 0 ∨ t i = 1) ∧ 0 ≤ s i ∧ s i ≤ 4 ∧ (w i).length = 4 ∧ (v i).length = 4 ∧ (t i = 1 → s i ≤ r i ∧ r i ≤ 4) ∧ (t i = 0 → s i = 0) ∧ (n i = -1 ∨ (0 ≤ n i ∧ n i < 5))) ∧
  (∀ i, i < 5 → ∀ k : Nat, (k : Int) < s i → ((w i).getD k 0 = 0 ∧ -9999 ≤ (v i).getD k 0 ∧ (v i).getD k 0 ≤ 9999) ∨ ((w i).getD k 0 = 1 ∧ 0 ≤ (v i).getD k 0 ∧ (v i).getD k 0 < 10) ∨ ((w i).getD k 0 = 2 ∧ 0 ≤ (v i).getD k 0 ∧ (v i).getD k 0 < 5 ∧ n ((v i).getD k 0).toNat = (i : Int))) ∧
  (∀ j, j < 5 → n j ≠ -1 → ∃ k : Nat, (k : Int) < s (n j).toNat ∧ (w (n j).toNat).getD k 0 = 2 ∧ (v (n j).toNat).getD k 0 = (j : Int)) ∧
  (∀ i, i < 5 → ∀ k l : Nat, (k : Int) < s i → (l : Int) < s i → (w i).getD k 0 = 2 → (w i).getD l 0 = 2 → (v i).getD k 0 = (v i).getD l 0 → k = l) ∧
  (∃ rk : Nat → Nat, ∀ j, j < 5 → n j ≠ -1 → rk (n j).toNat < rk j)
def BxR (r s t n : Nat → Int) (w v : Nat → List Int) (ro ho wh tg li : List Int) : Prop := ro.length = 5 ∧ ho.length = 5 ∧ wh.length = 20 ∧ tg.length = 20 ∧ li.length = 5 ∧ ∀ i, i < 5 → ro.getD i 0 = (if t i = 1 then r i else -1) ∧ ho.getD i 0 = s i ∧ li.getD i 0 = n i ∧ ∀ k : Nat, (k : Int) < s i → wh.getD (4 * i + k) 0 = (w i).getD k 0 ∧ tg.getD (4 * i + k) 0 = (v i).getD k 0
def BxI (h : AH) : Prop := h[51]? = some (2, [52]) ∧ h[52]? = some (25, [53, 56, 59, 62, 65]) ∧ ∃ (r s t n : Nat → Int) (w v : Nat → List Int) (ro ho wh tg li : List Int), (∀ i, i < 5 → BxH h i (r i) (s i) (t i) (n i) (w i) (v i)) ∧ h[123]? = some (20, ro) ∧ h[124]? = some (20, ho) ∧ h[125]? = some (20, wh) ∧ h[126]? = some (20, tg) ∧ h[127]? = some (20, li) ∧ BxM r s t n w v ∧ BxR r s t n w v ro ho wh tg li
def Inv (scr : List Int) (h : AH) : Prop := h.length = 130 ∧ h[0]? = some (26, scr) ∧ h[1]? = some (26, ovr) ∧ ∃ (le un ke ma : Int) (B C : Bo), SsI h un ∧ MhI h le un ke ma ∧ NoI h B C ∧ ToI h ∧ PaI h un ∧ KeI h ke ∧ TeI h le ∧ FoI h ∧ WoI h ∧ SiI h ma ∧ BxI h
section TRANS
variable {P : Nat → Prop} {h h' : AH} {un ke ma le : Int} {B C : Bo}
theorem LnI.fr {n t l : Nat} (H : LnI h n t l) (F : Fr P h h') (q : ¬ P n) : LnI h' n t l := by
  obtain ⟨xs, e, z⟩ := H
  exact ⟨xs, by rw [F.g n q]; exact e, z⟩
theorem SsI.fr (H : SsI h un) (F : Fr P h h') (q : ¬ P 2) : SsI h' un := by unfold SsI; rw [F.g 2 q]; exact H
theorem MhI.fr (H : MhI h le un ke ma) (F : Fr P h h') (q : ¬ P 108) : MhI h' le un ke ma := by
  obtain ⟨a, b, c, d, e, f, z⟩ := H
  exact ⟨a, b, c, d, e, f, by rw [F.g 108 q]; exact z⟩
theorem NoI.fr (H : NoI h B C) (F : Fr P h h') (q : ∀ j, 11 ≤ j → j < 15 → ¬ P j) (q2 : ¬ P 109) : NoI h' B C :=
  ⟨H.1.fr F q, by rw [F.g 109 q2]; exact H.2.1, H.2.2⟩
theorem ToI.fr (H : ToI h) (F : Fr P h h') (q : ∀ j, 3 ≤ j → j < 11 → ¬ P j) (q2 : ¬ P 110) : ToI h' := by
  obtain ⟨T, T', D, a, b, c, d, e⟩ := H
  exact ⟨T, T', D, a.fr F (fun j x y => q j (by omega) (by omega)), b.fr F (fun j x y => q j (by omega) (by omega)), by rw [F.g 110 q2]; exact c, d, e⟩
theorem PaI.fr (H : PaI h un) (F : Fr P h h') (q : ¬ P 15) (q2 : ¬ P 113) (q3 : ∀ j, 68 ≤ j → j < 100 → ¬ P j) : PaI h' un := by
  obtain ⟨u0, u1, ps, Q, C, R, a, b, c, d, e, f, g⟩ := H
  refine ⟨u0, u1, ps, Q, C, R, by rw [F.g 15 q]; exact a, by rw [F.g 113 q2]; exact b, c, d, e, fun k hk => ?_, fun i hi => ⟨(g i hi).1.fr F (fun j x y => q3 j ?_ ?_), (g i hi).2⟩⟩
  · obtain ⟨D, x, y⟩ := f k hk
    exact ⟨D, x.fr F (fun j x y => q3 j (by omega) (by omega)), y⟩
  · have := d i (by omega); omega
  · have := d i (by omega); omega
theorem KeI.fr (H : KeI h ke) (F : Fr P h h') (q : ¬ P 16) (q1 : ¬ P 17) (q2 : ¬ P 114) (q3 : ∀ j, 100 ≤ j → j < 108 → ¬ P j) : KeI h' ke := by
  obtain ⟨k0, k1, K0, K1, C0, C1, R, a, b, c, d, e, f, g, r⟩ := H
  exact ⟨k0, k1, K0, K1, C0, C1, R, by rw [F.g 16 q]; exact a, by rw [F.g 17 q1]; exact b, c.fr F (fun j x y => q3 j (by omega) (by omega)), d.fr F (fun j x y => q3 j (by omega) (by omega)), e, f, by rw [F.g 114 q2]; exact g, r⟩
theorem TeI.fr (H : TeI h le) (F : Fr P h h') (q : ¬ P 18) (q1 : ¬ P 19) (q2 : ¬ P 111) : TeI h' le := by
  obtain ⟨l0, l1, L, a, b, c, d, cl, st, en, e⟩ := H
  exact ⟨l0, l1, L, by rw [F.g 19 q1]; exact a, by rw [F.g 111 q2]; exact b, c, d, cl, st, en, by rw [F.g 18 q]; exact e⟩
theorem FoI.fr (H : FoI h) (F : Fr P h h') (q : ∀ j, 20 ≤ j → j < 46 → ¬ P j) : FoI h' := by
  obtain ⟨⟨ch, a⟩, b, c⟩ := H
  refine ⟨⟨ch, by rw [F.g 20 (q 20 (by omega) (by omega))]; exact a⟩, by rw [F.g 21 (q 21 (by omega) (by omega))]; exact b, fun i hi => ?_⟩
  obtain ⟨D, x, y⟩ := c i hi
  exact ⟨D, x.fr F (fun j x y => q j (by omega) (by omega)), y⟩
theorem WoI.fr (H : WoI h) (F : Fr P h h') (a : ¬ P 112) (b : ¬ P 115) (c : ∀ j, 116 ≤ j → j < 122 → ¬ P j) (d : ¬ P 128) (e : ¬ P 129) : WoI h' := by
  obtain ⟨x1, x2, x3, x4, x5, x6, x7, x8, x9, y⟩ := H
  exact ⟨x1.fr F a, x2.fr F b, x3.fr F (c _ (by omega) (by omega)), x4.fr F (c _ (by omega) (by omega)), x5.fr F (c _ (by omega) (by omega)), x6.fr F (c _ (by omega) (by omega)), x7.fr F (c _ (by omega) (by omega)), x8.fr F (c _ (by omega) (by omega)), x9.fr F d, y.fr F e⟩
theorem SiI.fr (H : SiI h ma) (F : Fr P h h') (q : ∀ j, 46 ≤ j → j < 51 → ¬ P j) (q2 : ¬ P 122) : SiI h' ma := by
  obtain ⟨m0, m1, s1, s2, s3, s4, s5, a, b, c, d, e, f, g⟩ := H
  exact ⟨m0, m1, s1, s2, s3, s4, s5, by rw [F.g 46 (q _ (by omega) (by omega))]; exact a, by rw [F.g 47 (q _ (by omega) (by omega))]; exact b, by rw [F.g 48 (q _ (by omega) (by omega))]; exact c, by rw [F.g 49 (q _ (by omega) (by omega))]; exact d, by rw [F.g 50 (q _ (by omega) (by omega))]; exact e, by rw [F.g 122 q2]; exact f, g⟩
theorem BxI.fr (H : BxI h) (F : Fr P h h') (q : ∀ j, 51 ≤ j → j < 68 → ¬ P j) (q2 : ∀ j, 123 ≤ j → j < 128 → ¬ P j) : BxI h' := by
  obtain ⟨a, b, r, s, t, n, w, v, ro, ho, wh, tg, li, c, d1, d2, d3, d4, d5, e⟩ := H
  refine ⟨by rw [F.g 51 (q _ (by omega) (by omega))]; exact a, by rw [F.g 52 (q _ (by omega) (by omega))]; exact b, r, s, t, n, w, v, ro, ho, wh, tg, li, fun i hi => ?_, by rw [F.g _ (q2 _ (by omega) (by omega))]; exact d1, by rw [F.g _ (q2 _ (by omega) (by omega))]; exact d2, by rw [F.g _ (q2 _ (by omega) (by omega))]; exact d3, by rw [F.g _ (q2 _ (by omega) (by omega))]; exact d4, by rw [F.g _ (q2 _ (by omega) (by omega))]; exact d5, e⟩
  obtain ⟨x, y, z⟩ := c i hi
  exact ⟨by rw [F.g _ (q _ (by omega) (by omega))]; exact x, by rw [F.g _ (q _ (by omega) (by omega))]; exact y, by rw [F.g _ (q _ (by omega) (by omega))]; exact z⟩
end TRANS
