-- ===== cost, as, good =====
theorem zpe {n : Nat} {g0 : zS} (I : zInv n g0) : ∃ p r : Nat, p ≤ 4 ∧ r ≤ 20 ∧ g0 4 1 = nI p ∧ g0 222 14 = nI p ∧ g0 4 3 = nI r ∧ g0 222 15 = nI r ∧ ∀ i, i < p → g0 230 i = g0 10 i ∧ (∃ k : Nat, k ≤ 3 ∧ g0 10 i = nI k) ∧ g0 231 i = g0 12 i ∧ ∃ v : Nat, v ≤ 20 ∧ g0 12 i = nI v := by
  obtain ⟨w, p, c, r, l, b0, ⟨b1, b2, b3, b4, b5⟩, ⟨c1, c2, c3, c4, c5⟩, d1, d2, d3⟩ := I.2.1
  exact ⟨p, r, by omega, by omega, b2, c2, b4, c4, fun i hi => ⟨(d2 i hi).1.symm, (d2 i hi).2.2.1, (d2 i hi).2.1.symm, (d2 i hi).2.2.2⟩⟩
theorem f54_s {K a : Nat} {g0 g : zS} (s : zScr g0 g) (ha : a < 4) : f54 K 4 (nI a) g = some (g0 10 a, g) := by rw [f54_eq ha, zScr_c s (by omega)]
/-- priceFor -/
theorem f58_sp {K a m : Nat} {g0 g : zS} {x : Int32} (hK : 20 ≤ K) (I : zIto g0) (s : zScr g0 g) (hm : m ≤ 8) (h1 : g0 180 1 = nI m) (Wd : zWds g0 m (g0 182)) (ha : a < 4) : ∃ g', f58 K (nI a) x g = some (nI (zPr g0 (g0 10 a) x m (g0 182)), g') ∧ zScr g0 g' ∧ ∀ c, c ≠ 183 → c ≠ 185 → g' c = g c := by
  obtain ⟨g', e1, e2, e3, e4⟩ := f59_sp (x := x) hK I s
  refine ⟨g', ?_, e2, e3⟩
  unfold f58
  rw [e1, zbd_s, f54_s e2 ha, zbd_s, f60_sp hK I (zLn_180 e2 hm h1) Wd e4, zbd_s]
theorem f53_s {K p : Nat} {x : Int32} {g0 g : zS} (s : zScr g0 g) (h : g0 4 1 = nI p) : f53 K x g = some (zwi x 0 (nI p - 1), g) := by rw [f53_eq, zScr_c s (by omega), h]
theorem f170_s {K p : Nat} {x : Int32} {g0 g : zS} (s : zScr g0 g) (h : g0 222 14 = nI p) : f170 K x g = some (zwi x 0 (nI p - 1), g) := by rw [f170_eq, zScr_222 s (by omega), h]
theorem zp_cost {K : Nat} (hK : 20 ≤ K) (n : Nat) (x y : Int32) : zPair (zInv n) (zInv (n + 1)) (f72 K x y) (f183 K x y) := by
  refine zPair_scr fun g I => ?_
  obtain ⟨p, r, p4, r20, b1, b2, -, -, b3⟩ := zpe I
  obtain ⟨m, m8, l1, l2, Wd, l3⟩ := zli I
  by_cases hw : zwi x 0 (nI p - 1) = 0
  · refine ⟨-2, zR_eq (g := g) ?_ ⟨rfl, zScr_0⟩, fun g1 s1 => zR_eq (g := g1) ?_ ⟨rfl, s1⟩⟩
    · unfold f72
      rw [f53_s zScr_0 b1, zbd_s, if_neg (fun q => q hw)]
    · unfold f183
      rw [f170_s s1 b2, zbd_s, if_neg (fun q => q hw)]
  obtain ⟨a, a1, rfl⟩ := zwi_cnt (by omega) hw
  by_cases hy : zwi y 0 999 = 0
  · refine ⟨-3, zR_eq (g := g) ?_ ⟨rfl, zScr_0⟩, fun g1 s1 => ?_⟩
    · unfold f72
      rw [f53_s zScr_0 b1, zbd_s, if_pos hw, f12_eq, zbd_s, if_pos hy]
    · obtain ⟨g2, e1, e2, -⟩ := f173_sp hK s1 m8 l2 l3
      refine zR_eq (g := g2) ?_ ⟨rfl, e2⟩
      unfold f183
      rw [f170_s s1 b2, zbd_s, if_pos hw, e1, zbd_s, i64_0, i64_999, f146_eq, zbd_s, if_pos hy]
  obtain ⟨k1, ⟨k, k2, k3⟩, -⟩ := b3 a a1
  refine ⟨nI (zPr g (g 10 a) y m (g 182)), ?_, fun g1 s1 => ?_⟩
  · obtain ⟨g2, e1, e2, -⟩ := f58_sp (x := y) hK I.2.1 zScr_0 m8 l1 Wd (show a < 4 by omega)
    refine zR_eq (g := g2) ?_ ⟨rfl, e2⟩
    unfold f72
    rw [f53_s zScr_0 b1, zbd_s, if_pos hw, f12_eq, zbd_s, if_neg hy, e1, zbd_s]
  · obtain ⟨g2, e1, e2, T, -⟩ := f173_sp hK s1 m8 l2 l3
    obtain ⟨g3, d1, d2, -⟩ := f174_sp (x := y) hK I.2.1 e2 Wd T k2
    refine zR_eq (g := g3) ?_ ⟨rfl, d2⟩
    unfold f183
    rw [f170_s s1 b2, zbd_s, if_pos hw, e1, zbd_s, i64_0, i64_999, f146_eq, zbd_s, if_neg hy, if_pos (zin_i (by omega) (by decide)), nI_clamp (by omega), zScr_c e2 (by omega), k1, k3, d1, zbd_s]
/-- is one of kind k such a one -/
def zsu (k j : Nat) : Bool := j == 0 || (j == 1 && decide (k ≤ 1)) || (j == 2 && k == 1) || (j == 3 && decide (2 ≤ k)) || (j == 4 && k == 3)
theorem f57_eq {K : Nat} {g : zS} : ∀ k j, k ≤ 3 → j ≤ 4 → f57 K (nI k) (nI j) g = some (nI (zsu k j).toNat, g)
  | 0, 0, _, _ => rfl
  | 0, 1, _, _ => rfl
  | 0, 2, _, _ => rfl
  | 0, 3, _, _ => rfl
  | 0, 4, _, _ => rfl
  | 1, 0, _, _ => rfl
  | 1, 1, _, _ => rfl
  | 1, 2, _, _ => rfl
  | 1, 3, _, _ => rfl
  | 1, 4, _, _ => rfl
  | 2, 0, _, _ => rfl
  | 2, 1, _, _ => rfl
  | 2, 2, _, _ => rfl
  | 2, 3, _, _ => rfl
  | 2, 4, _, _ => rfl
  | 3, 0, _, _ => rfl
  | 3, 1, _, _ => rfl
  | 3, 2, _, _ => rfl
  | 3, 3, _, _ => rfl
  | 3, 4, _, _ => rfl
  | k + 4, _, h, _ => by omega
  | _, j + 5, _, h => by omega
theorem f172_br {K : Nat} {g : zS} : ∀ k j, k ≤ 3 → j ≤ 4 → (if nI j = 0 then f172_77 K (nI k) g else if ¬ nI j = 1 then f172_47 K (nI j) (nI k) g else if nI k < 2 then f172_77 K (nI k) g else f172_47 K (nI j) (nI k) g) = f172_82 K (nI k) (nI (zsu k j).toNat) g
  | 0, 0, _, _ => rfl
  | 0, 1, _, _ => rfl
  | 0, 2, _, _ => rfl
  | 0, 3, _, _ => rfl
  | 0, 4, _, _ => rfl
  | 1, 0, _, _ => rfl
  | 1, 1, _, _ => rfl
  | 1, 2, _, _ => rfl
  | 1, 3, _, _ => rfl
  | 1, 4, _, _ => rfl
  | 2, 0, _, _ => rfl
  | 2, 1, _, _ => rfl
  | 2, 2, _, _ => rfl
  | 2, 3, _, _ => rfl
  | 2, 4, _, _ => rfl
  | 3, 0, _, _ => rfl
  | 3, 1, _, _ => rfl
  | 3, 2, _, _ => rfl
  | 3, 3, _, _ => rfl
  | 3, 4, _, _ => rfl
  | k + 4, _, h, _ => by omega
  | _, j + 5, _, h => by omega
theorem zp_as {K : Nat} (hK : 20 ≤ K) (n : Nat) (x y : Int32) : zPair (zInv n) (zInv (n + 1)) (f56 K x y) (f172 K x y) := by
  refine zPair_scr fun g I => ?_
  obtain ⟨p, r, p4, r20, b1, b2, -, -, b3⟩ := zpe I
  obtain ⟨m, m8, l1, l2, Wd, l3⟩ := zli I
  by_cases hw : zwi x 0 (nI p - 1) = 0
  · refine ⟨-2, zR_eq (g := g) ?_ ⟨rfl, zScr_0⟩, fun g1 s1 => zR_eq (g := g1) ?_ ⟨rfl, s1⟩⟩
    · unfold f56
      rw [f53_s zScr_0 b1, zbd_s, if_neg (fun q => q hw)]
    · unfold f172
      rw [f170_s s1 b2, zbd_s, if_neg (fun q => q hw)]
  obtain ⟨a, a1, rfl⟩ := zwi_cnt (by omega) hw
  by_cases hy : zwi y 0 4 = 0
  · refine ⟨-3, zR_eq (g := g) ?_ ⟨rfl, zScr_0⟩, fun g1 s1 => zR_eq (g := g1) ?_ ⟨rfl, s1⟩⟩
    · unfold f56
      rw [f53_s zScr_0 b1, zbd_s, if_pos hw, f12_eq, zbd_s, if_neg (fun q => q hy)]
    · unfold f172
      rw [f170_s s1 b2, zbd_s, if_pos hw, i64_0, i64_4, f146_eq, zbd_s, if_neg (fun q => q hy)]
  obtain ⟨j, j1, rfl⟩ := zwi_of (b := 4) (by decide) hy
  obtain ⟨k1, ⟨k, k2, k3⟩, -⟩ := b3 a a1
  have C : f56 K (nI a) (nI j) g = if nI (zsu k j).toNat = 0 then some (-4, g) else zbd (f58 K (nI a) (g 34 0) g) fun r132 g131 => some (r132, g131) := by
    unfold f56
    rw [f53_s zScr_0 b1, zbd_s, if_pos hw, f12_eq, zbd_s, if_pos hy, f54_s zScr_0 (by omega), zbd_s, k3, f57_eq k j k2 j1, zbd_s]
  have R : ∀ g1, zScr g g1 → f172 K (nI a) (nI j) g1 = f172_82 K (nI k) (nI (zsu k j).toNat) g1 := by
    intro g1 s1
    unfold f172
    rw [f170_s s1 b2, zbd_s, if_pos hw, i64_0, i64_4, f146_eq, zbd_s, if_pos hy, if_pos (zin_i (by omega) (by decide)), nI_clamp (by omega), zScr_c s1 (c := 230) (by omega), k1, k3, f172_br k j k2 j1]
  cases hz : zsu k j with
  | false =>
    refine ⟨-4, zR_eq (g := g) ?_ ⟨rfl, zScr_0⟩, fun g1 s1 => ?_⟩
    · rw [C, hz, if_pos (by decide)]
    · obtain ⟨g2, e1, e2, -⟩ := f173_sp hK s1 m8 l2 l3
      refine zR_eq (g := g2) ?_ ⟨rfl, e2⟩
      rw [R g1 s1, hz]
      unfold f172_82
      rw [e1, zbd_s, if_pos (by decide)]
  | true =>
    refine ⟨nI (zPr g (g 10 a) (g 34 0) m (g 182)), ?_, fun g1 s1 => ?_⟩
    · obtain ⟨g2, e1, e2, -⟩ := f58_sp (x := g 34 0) hK I.2.1 zScr_0 m8 l1 Wd (show a < 4 by omega)
      refine zR_eq (g := g2) ?_ ⟨rfl, e2⟩
      rw [C, hz, if_neg (by decide), e1, zbd_s]
    · obtain ⟨g2, e1, e2, T, -⟩ := f173_sp hK s1 m8 l2 l3
      obtain ⟨g3, d1, d2, -⟩ := f174_sp (x := g 34 0) hK I.2.1 e2 Wd T k2
      refine zR_eq (g := g3) ?_ ⟨rfl, d2⟩
      have hwk : g2 223 (0 : Int32).toNatClampNeg = g 34 0 := by
        rw [zScr_c e2 (by omega)]
        exact I.2.2.1.2.1.symm
      rw [R g1 s1, hz]
      unfold f172_82
      rw [e1, zbd_s, if_neg (by decide), if_pos (by decide), hwk, d1, zbd_s, k3]
theorem zp_good {K : Nat} (hK : 20 ≤ K) (n : Nat) : zPair (zInv n) (zInv (n + 1)) (f73 K) (f184 K) := by
  refine zPair_scr fun g I => ?_
  obtain ⟨m, m8, l1, l2, Wd, l3⟩ := zli I
  have fin : ∀ (b : Bool) (g : zS), (if nI b.toNat = 0 then some ((0 : Int32), g) else some (1, g)) = some (nI b.toNat, g) := by
    intro b g
    cases b
    · rw [if_pos (by decide)]; rfl
    · rw [if_neg (by decide)]; rfl
  refine ⟨nI (decide (zGd (zQ g (g 34 0) m (g 182)) m)).toNat, ?_, fun g1 s1 => ?_⟩
  · obtain ⟨g2, e1, e2, e3, e4⟩ := f59_sp (x := g 34 0) hK I.2.1 zScr_0
    refine zR_eq (g := g2) ?_ ⟨rfl, e2⟩
    unfold f73
    rw [e1, zbd_s, f74_eq hK (zLn_180 e2 m8 l1) Wd e4, zbd_s, fin]
  · obtain ⟨g2, e1, e2, T, -⟩ := f173_sp hK s1 m8 l2 l3
    obtain ⟨g3, d1, d2, -⟩ := f185_sp hK I e2 Wd T
    refine zR_eq (g := g3) ?_ ⟨rfl, d2⟩
    unfold f184
    rw [e1, zbd_s, d1, zbd_s, fin]
