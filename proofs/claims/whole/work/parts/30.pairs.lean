-- ===== the law's loop out of thirty-five pairs (printed by wip/whole/genpairs.py) =====
/-- a call of the class, then the same call of the reference: they come to an end with equal answers -/
def zPair (I J : zS → Prop) (a b : zS → Option (Int32 × zS)) : Prop := ∀ g, I g → ∃ r g1 g2, a g = some (r, g1) ∧ b g1 = some (r, g2) ∧ J g2
def zOne (o : Option (Int32 × zS)) : Prop := ∃ g', o = some (1, g')
theorem zOne_ite {c : Prop} [Decidable c] {t e : Option (Int32 × zS)} (h1 : c → zOne t) (h2 : ¬ c → zOne e) : zOne (if c then t else e) := by
  by_cases h : c
  · rw [if_pos h]; exact h1 h
  · rw [if_neg h]; exact h2 h
theorem zOne_pair {I J : zS → Prop} {a b : zS → Option (Int32 × zS)} (h : zPair I J a b) {g : zS} (hI : I g) {k : zS → Option (Int32 × zS)} (hk : ∀ g2, J g2 → zOne (k g2)) : zOne (zbd (a g) fun r g1 => zbd (b g1) fun r2 g2 => if r = r2 then k g2 else some (0, g2)) := by
  obtain ⟨r, g1, g2, h1, h2, h3⟩ := h g hI
  rw [h1]
  show zOne (zbd (b g1) fun r2 g2 => if r = r2 then k g2 else some (0, g2))
  rw [h2]
  show zOne (if r = r then k g2 else some (0, g2))
  rw [if_pos rfl]
  exact hk g2 h3
def zPairs (K : Nat) (I : Nat → zS → Prop) : Prop :=
  (∀ (n : Nat) (_ : n < 64) (x1 : Int32), zPair (I n) (I (n + 1)) (f11 K x1) (f145 K x1))
  ∧ (∀ (n : Nat) (_ : n < 64), zPair (I n) (I (n + 1)) (f15 K) (f147 K))
  ∧ (∀ (n : Nat) (_ : n < 64), zPair (I n) (I (n + 1)) (f16 K) (f148 K))
  ∧ (∀ (n : Nat) (_ : n < 64), zPair (I n) (I (n + 1)) (f43 K) (f160 K))
  ∧ (∀ (n : Nat) (_ : n < 64) (x1 x2 : Int32), zPair (I n) (I (n + 1)) (f47 K x1 x2) (f166 K x1 x2))
  ∧ (∀ (n : Nat) (_ : n < 64) (x1 x2 : Int32), zPair (I n) (I (n + 1)) (f52 K x1 x2) (f169 K x1 x2))
  ∧ (∀ (n : Nat) (_ : n < 64) (x1 x2 : Int32), zPair (I n) (I (n + 1)) (f56 K x1 x2) (f172 K x1 x2))
  ∧ (∀ (n : Nat) (_ : n < 64) (x1 : Int32), zPair (I n) (I (n + 1)) (f68 K x1) (f180 K x1))
  ∧ (∀ (n : Nat) (_ : n < 64), zPair (I n) (I (n + 1)) (f70 K) (f181 K))
  ∧ (∀ (n : Nat) (_ : n < 64) (x1 : Int32), zPair (I n) (I (n + 1)) (f71 K x1) (f182 K x1))
  ∧ (∀ (n : Nat) (_ : n < 64) (x1 x2 : Int32), zPair (I n) (I (n + 1)) (f72 K x1 x2) (f183 K x1 x2))
  ∧ (∀ (n : Nat) (_ : n < 64), zPair (I n) (I (n + 1)) (f73 K) (f184 K))
  ∧ (∀ (n : Nat) (_ : n < 64) (x1 : Int32), zPair (I n) (I (n + 1)) (f75 K x1) (f187 K x1))
  ∧ (∀ (n : Nat) (_ : n < 64), zPair (I n) (I (n + 1)) (f85 K) (f191 K))
  ∧ (∀ (n : Nat) (_ : n < 64) (x1 x2 x3 x4 : Int32), zPair (I n) (I (n + 1)) (f87 K x1 x2 x3 x4) (f193 K x1 x2 x3 x4))
  ∧ (∀ (n : Nat) (_ : n < 64) (x1 x2 x3 : Int32), zPair (I n) (I (n + 1)) (f89 K x1 x2 x3) (f195 K x1 x2 x3))
  ∧ (∀ (n : Nat) (_ : n < 64) (x1 x2 : Int32), zPair (I n) (I (n + 1)) (f92 K x1 x2) (f196 K x1 x2))
  ∧ (∀ (n : Nat) (_ : n < 64), zPair (I n) (I (n + 1)) (f93 K) (f197 K))
  ∧ (∀ (n : Nat) (_ : n < 64) (x1 : Int32), zPair (I n) (I (n + 1)) (f95 K x1) (f198 K x1))
  ∧ (∀ (n : Nat) (_ : n < 64) (x1 : Int32), zPair (I n) (I (n + 1)) (f97 K x1) (f199 K x1))
  ∧ (∀ (n : Nat) (_ : n < 64) (x1 : Int32), zPair (I n) (I (n + 1)) (f99 K x1) (f200 K x1))
  ∧ (∀ (n : Nat) (_ : n < 64), zPair (I n) (I (n + 1)) (f108 K) (f207 K))
  ∧ (∀ (n : Nat) (_ : n < 64) (x1 x2 : Int32), zPair (I n) (I (n + 1)) (f109 K x1 x2) (f208 K x1 x2))
  ∧ (∀ (n : Nat) (_ : n < 64) (x1 x2 : Int32), zPair (I n) (I (n + 1)) (f113 K x1 x2) (f212 K x1 x2))
  ∧ (∀ (n : Nat) (_ : n < 64), zPair (I n) (I (n + 1)) (f118 K) (f214 K))
  ∧ (∀ (n : Nat) (_ : n < 64), zPair (I n) (I (n + 1)) (f121 K) (f215 K))
  ∧ (∀ (n : Nat) (_ : n < 64) (x1 x2 x3 : Int32), zPair (I n) (I (n + 1)) (f122 K x1 x2 x3) (f216 K x1 x2 x3))
  ∧ (∀ (n : Nat) (_ : n < 64) (x1 x2 : Int32), zPair (I n) (I (n + 1)) (f123 K x1 x2) (f218 K x1 x2))
  ∧ (∀ (n : Nat) (_ : n < 64) (x1 x2 : Int32), zPair (I n) (I (n + 1)) (f129 K x1 x2) (f220 K x1 x2))
  ∧ (∀ (n : Nat) (_ : n < 64) (x1 : Int32), zPair (I n) (I (n + 1)) (f133 K x1) (f222 K x1))
  ∧ (∀ (n : Nat) (_ : n < 64), zPair (I n) (I (n + 1)) (f135 K) (f224 K))
  ∧ (∀ (n : Nat) (_ : n < 64) (x1 : Int32), zPair (I n) (I (n + 1)) (f136 K x1) (f225 K x1))
  ∧ (∀ (n : Nat) (_ : n < 64) (x1 : Int32), zPair (I n) (I (n + 1)) (f138 K x1) (f226 K x1))
  ∧ (∀ (n : Nat) (_ : n < 64), zPair (I n) (I (n + 1)) (f140 K) (f228 K))
  ∧ (∀ (n : Nat) (_ : n < 64) (x1 : Int32), zPair (I n) (I (n + 1)) (f142 K x1) (f230 K x1))
theorem zI_mono {I : Nat → zS → Prop} (h : ∀ n g, I n g → I (n + 1) g) : ∀ n g, I n g → I (n + 1) g := h
theorem nI_add5 (n : Nat) : nI n + 5 = nI (n + 5) := nI_add n 5
theorem zx_lt {L n : Nat} (hL : L ≤ 320) (hn : n ≤ 325) : (nI L - 5 < nI n) ↔ L < n + 5 := by
  have h5 : (nI L - 5).toInt = (L : Int) - 5 := by
    rw [Int32.toInt_sub, nI_toInt (by omega), show (5 : Int32).toInt = 5 from rfl, Int.bmod_eq_of_le (by omega) (by omega)]
  rw [Int32.lt_iff_toInt_lt, h5, nI_toInt (by omega)]
  omega
theorem zx_add {n i : Nat} (_ : n ≤ 325) : nI n + nI i = nI (n + i) := nI_add n i
theorem zx_in {L n i : Nat} (hL : L ≤ 320) (h : n + i < L) : zin (nI n + nI i) L := by
  rw [zx_add (by omega)]
  refine ⟨?_, ?_⟩ <;> rw [nI_toInt (by omega)] <;> omega
theorem zloop {L : Nat} (hL : L ≤ 320) (xs : Nat → Int32) {K : Nat} {I : Nat → zS → Prop} (hI : ∀ n g, I n g → I (n + 1) g) (P : zPairs K I) : ∀ m n g, n ≤ 64 → 65 ≤ m + n → I n g → zOne (fL_18 L xs K m (nI (5 * n)) g) := by
  obtain ⟨p0, p1, p2, p3, p4, p5, p6, p7, p8, p9, p10, p11, p12, p13, p14, p15, p16, p17, p18, p19, p20, p21, p22, p23, p24, p25, p26, p27, p28, p29, p30, p31, p32, p33, p34⟩ := P
  intro m
  induction m with
  | zero => intro n g h1 h2 _; omega
  | succ m ih =>
    intro n g h1 h2 hg
    rw [fL_18]
    refine zOne_ite (fun _ => ⟨g, rfl⟩) (fun hlt => ?_)
    have hle : 5 * n + 5 ≤ L := by
      have := mt (zx_lt hL (n := 5 * n) (by omega)).mpr hlt
      omega
    have hn : n < 64 := by omega
    have z0 : zin (nI (5 * n)) L := by
      have := zx_in (i := 0) hL (show 5 * n + 0 < L by omega)
      rwa [zx_add (by omega)] at this
    have z1 : zin (nI (5 * n) + 1) L := zx_in (i := 1) hL (by omega)
    have z2 : zin (nI (5 * n) + 2) L := zx_in (i := 2) hL (by omega)
    have z3 : zin (nI (5 * n) + 3) L := zx_in (i := 3) hL (by omega)
    have z4 : zin (nI (5 * n) + 4) L := zx_in (i := 4) hL (by omega)
    have hk : ∀ g2, I (n + 1) g2 → zOne (fL_1033 L xs K (fL_18 L xs K m) (nI (5 * n)) g2) := by
      intro g2 h
      unfold fL_1033
      rw [nI_add5]
      exact ih (n + 1) g2 (by omega) (by omega) h
    generalize xs = xs' at *
    simp only [if_pos z0, if_pos z1, if_pos z2, if_pos z3, if_pos z4]
    refine zOne_ite (fun _ => zOne_pair (p0 n hn _) hg hk) (fun _ => ?_)
    refine zOne_ite (fun _ => zOne_pair (p1 n hn) hg hk) (fun _ => ?_)
    refine zOne_ite (fun _ => zOne_pair (p2 n hn) hg hk) (fun _ => ?_)
    refine zOne_ite (fun _ => zOne_pair (p3 n hn) hg hk) (fun _ => ?_)
    refine zOne_ite (fun _ => zOne_pair (p4 n hn _ _) hg hk) (fun _ => ?_)
    refine zOne_ite (fun _ => zOne_pair (p5 n hn _ _) hg hk) (fun _ => ?_)
    refine zOne_ite (fun _ => zOne_pair (p6 n hn _ _) hg hk) (fun _ => ?_)
    refine zOne_ite (fun _ => zOne_pair (p7 n hn _) hg hk) (fun _ => ?_)
    refine zOne_ite (fun _ => zOne_pair (p8 n hn) hg hk) (fun _ => ?_)
    refine zOne_ite (fun _ => zOne_pair (p9 n hn _) hg hk) (fun _ => ?_)
    refine zOne_ite (fun _ => zOne_pair (p10 n hn _ _) hg hk) (fun _ => ?_)
    refine zOne_ite (fun _ => zOne_pair (p11 n hn) hg hk) (fun _ => ?_)
    refine zOne_ite (fun _ => zOne_pair (p12 n hn _) hg hk) (fun _ => ?_)
    refine zOne_ite (fun _ => zOne_pair (p13 n hn) hg hk) (fun _ => ?_)
    refine zOne_ite (fun _ => zOne_pair (p14 n hn _ _ _ _) hg hk) (fun _ => ?_)
    refine zOne_ite (fun _ => zOne_pair (p15 n hn _ _ _) hg hk) (fun _ => ?_)
    refine zOne_ite (fun _ => zOne_pair (p16 n hn _ _) hg hk) (fun _ => ?_)
    refine zOne_ite (fun _ => zOne_pair (p17 n hn) hg hk) (fun _ => ?_)
    refine zOne_ite (fun _ => zOne_pair (p18 n hn _) hg hk) (fun _ => ?_)
    refine zOne_ite (fun _ => zOne_pair (p19 n hn _) hg hk) (fun _ => ?_)
    refine zOne_ite (fun _ => zOne_pair (p20 n hn _) hg hk) (fun _ => ?_)
    refine zOne_ite (fun _ => zOne_pair (p21 n hn) hg hk) (fun _ => ?_)
    refine zOne_ite (fun _ => zOne_pair (p22 n hn _ _) hg hk) (fun _ => ?_)
    refine zOne_ite (fun _ => zOne_pair (p23 n hn _ _) hg hk) (fun _ => ?_)
    refine zOne_ite (fun _ => zOne_pair (p24 n hn) hg hk) (fun _ => ?_)
    refine zOne_ite (fun _ => zOne_pair (p25 n hn) hg hk) (fun _ => ?_)
    refine zOne_ite (fun _ => zOne_pair (p26 n hn _ _ _) hg hk) (fun _ => ?_)
    refine zOne_ite (fun _ => zOne_pair (p27 n hn _ _) hg hk) (fun _ => ?_)
    refine zOne_ite (fun _ => zOne_pair (p28 n hn _ _) hg hk) (fun _ => ?_)
    refine zOne_ite (fun _ => zOne_pair (p29 n hn _) hg hk) (fun _ => ?_)
    refine zOne_ite (fun _ => zOne_pair (p30 n hn) hg hk) (fun _ => ?_)
    refine zOne_ite (fun _ => zOne_pair (p31 n hn _) hg hk) (fun _ => ?_)
    refine zOne_ite (fun _ => zOne_pair (p32 n hn _) hg hk) (fun _ => ?_)
    refine zOne_ite (fun _ => zOne_pair (p33 n hn) hg hk) (fun _ => ?_)
    refine zOne_ite (fun _ => zOne_pair (p34 n hn _) hg hk) (fun _ => ?_)
    exact hk g (hI n g hg)
theorem zpure_of {L : Nat} (hL : L ≤ 320) (xs : Nat → Int32) {K : Nat} (hK : 65 ≤ K) {I : Nat → zS → Prop} (hI : ∀ n g, I n g → I (n + 1) g) (P : zPairs K I) (h0 : I 0 zg0) : ∃ (K : Nat) (g' : zS), fL_18 L xs K K 0 zg0 = some (1, g') :=
  ⟨K, zloop hL xs hI P K 0 zg0 (by omega) (by omega) h0⟩
