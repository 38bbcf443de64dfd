-- ===== likeness, author =====
def zAl (g0 : zS) (a : Nat) : Int32 := zfo (fun i => g0 (34 + 10) (a * 10 + i)) 10 0 0 + g0 4 0
def zlk (g0 : zS) (a : Nat) : Nat → Int32
  | 0 => 0
  | i + 1 => zlk g0 a i + (if g0 182 i = -1 then 0 else (1000 * (g0 44 (a * 10 + (g0 182 i).toNatClampNeg) + 1)) / zAl g0 a)
theorem zlk_s {g0 : zS} {a i : Nat} : zlk g0 a (i + 1) = zlk g0 a i + (if g0 182 i = -1 then 0 else (1000 * (g0 44 (a * 10 + (g0 182 i).toNatClampNeg) + 1)) / zAl g0 a) := rfl
theorem zfo_nn {F : Nat → Int32} {B : Nat} : ∀ {d i a : Nat}, (∀ j, i ≤ j → j < i + d → ∃ t, t ≤ B ∧ F j = nI t) → ∃ T, T ≤ a + d * B ∧ zfo F d i (nI a) = nI T := by
  intro d
  induction d with
  | zero => intro i a _; exact ⟨a, by omega, rfl⟩
  | succ d ih =>
    intro i a h
    obtain ⟨t, t1, t2⟩ := h i (by omega) (by omega)
    obtain ⟨T, T1, T2⟩ := @ih (i + 1) (a + t) (fun j j1 j2 => h j (by omega) (by omega))
    refine ⟨T, by rw [Nat.succ_mul]; omega, ?_⟩
    unfold zfo
    rw [t2, nI_add]
    exact T2
theorem zAl_n {n a : Nat} {g0 : zS} (hn : n ≤ 64) (I : zInv n g0) (ha : a < 4) : ∃ T w, g0 4 0 = nI w ∧ w ≤ 10 ∧ T ≤ 5120 ∧ zAl g0 a = nI (T + w) := by
  obtain ⟨w, p, c, r, l, b0, ⟨b1, -⟩, -⟩ := I.2.1
  obtain ⟨T, T1, T2⟩ := @zfo_nn (fun i => g0 (34 + 10) (a * 10 + i)) 512 10 0 0 (fun j _ hj => by
    obtain ⟨-, t, t1, t2⟩ := I.2.2.1.2.2.2.1 (a * 10 + j) (by omega)
    exact ⟨t, by omega, t2⟩)
  refine ⟨T, w, b1, by omega, by omega, ?_⟩
  unfold zAl
  rw [show zfo (fun i => g0 (34 + 10) (a * 10 + i)) 10 0 0 = nI T from T2, b1, nI_add]
theorem zlk_n {n a m : Nat} {g0 : zS} (hn : n ≤ 64) (I : zInv n g0) (ha : a < 4) (hm : m ≤ 8) (Wd : zWds g0 m (g0 182)) : ∀ i, i ≤ m → ∃ T, T ≤ 600000 * i ∧ zlk g0 a i = nI T := by
  obtain ⟨T, w, b1, w10, T5, hA⟩ := zAl_n hn I ha
  intro i
  induction i with
  | zero => intro _; exact ⟨0, by omega, rfl⟩
  | succ i ih =>
    intro hi
    obtain ⟨T2, h1, h2⟩ := ih (by omega)
    rw [zlk_s, h2]
    rcases Wd i (by omega) with h | ⟨v, v1, v2, v3⟩
    · rw [if_pos h]
      exact ⟨T2, by omega, by rw [Int32.add_zero]⟩
    · have hn1 : ¬ g0 182 i = -1 := by rw [v2]; exact nI_nm1 (by omega)
      have hv : v < w := by rw [b1] at v3; exact (nI_ltI (by omega) (by omega)).mp v3
      obtain ⟨-, t, t1, t2⟩ := I.2.2.1.2.2.2.1 (a * 10 + v) (by omega)
      have t2 : g0 44 (a * 10 + v) = nI t := t2
      rw [if_neg hn1, v2, nI_clamp (by omega), t2, hA, nI_1, show (1000 : Int32) = nI 1000 from rfl, nI_mu, pk_div (by omega) (by omega) (by omega), nI_add]
      refine ⟨T2 + 1000 * (t + 1) / (T + w), ?_, rfl⟩
      have := Nat.div_le_self (1000 * (t + 1)) (T + w)
      omega
theorem f51_eq {K a w : Nat} {g : zS} (ha : a < 4) (hw : w < 10) : f51 K 34 (nI a) (nI w) g = some (g 44 (a * 10 + w), g) := by
  unfold f51
  rw [show (10 : Int32) = nI 10 from rfl, nI_mu, nI_add, f21_eq (by exact (show a * 10 + w < 40 by omega)) (by decide), zbd_s]
theorem f134_lp {K n a m : Nat} {g0 : zS} (hn : n ≤ 64) (I : zInv n g0) (ha : a < 4) (hm : m ≤ 8) (l1 : g0 180 1 = nI m) (Wd : zWds g0 m (g0 182)) : ∀ d i q, i + d = m → d < q → f134_22 K q (nI a) (zAl g0 a) (zlk g0 a i) (nI i) g0 = some (zlk g0 a m, g0) := by
  obtain ⟨T, w, b1, w10, T5, hA⟩ := zAl_n hn I ha
  intro d
  induction d with
  | zero =>
    intro i q h1 h2
    obtain ⟨q, rfl⟩ : ∃ z, q = z + 1 := ⟨q - 1, by omega⟩
    rw [f134_22, l1, if_pos (nI_le (by omega) (by omega)), show i = m by omega]
  | succ d ih =>
    intro i q h1 h2
    obtain ⟨q, rfl⟩ : ∃ z, q = z + 1 := ⟨q - 1, by omega⟩
    have := ih (i + 1) q (by omega) (by omega)
    rw [zlk_s] at this
    rw [f134_22, l1, if_neg (nI_ge (by omega) (by omega)), f62_eq (zLn_180 zScr_0 hm l1) (by omega), zbd_s, if_pos (show i < m by omega)]
    unfold f134_76
    rw [nI_1]
    rcases Wd i (by omega) with h | ⟨v, v1, v2, v3⟩
    · rw [if_pos h]
      rw [if_pos h, Int32.add_zero] at this
      exact this
    · have hn1 : ¬ g0 182 i = -1 := by rw [v2]; exact nI_nm1 (by omega)
      have hv : v < w := by rw [b1] at v3; exact (nI_ltI (by omega) (by omega)).mp v3
      rw [if_neg hn1, if_neg (show ¬ zAl g0 a ≤ 0 by rw [hA]; exact nI_nle (by omega) (by omega)), v2, f51_eq ha v1, zbd_s, if_pos (show ¬ zAl g0 a = 0 by rw [hA]; exact nI_ne0 (by omega) (by omega))]
      rw [if_neg hn1, v2, nI_clamp (by omega)] at this
      exact this
theorem f134_eq {K n a m : Nat} {g0 : zS} (hK : 20 ≤ K) (hn : n ≤ 64) (I : zInv n g0) (ha : a < 4) (hm : m ≤ 8) (l1 : g0 180 1 = nI m) (Wd : zWds g0 m (g0 182)) : f134 K (nI a) g0 = some (zlk g0 a m, g0) := by
  unfold f134 f55
  rw [show f55_4 K K 34 (nI a) 0 0 g0 = some (zfo (fun i => g0 (34 + 10) (a * 10 + i)) 10 0 0, g0) from f55_lp (by decide) ha 10 0 K 0 (by omega) (by omega), zbd_s]
  exact f134_lp hn I ha hm l1 Wd m 0 K (by omega) (by omega)
theorem f223_lp {K n a m : Nat} {g0 g : zS} (hn : n ≤ 64) (I : zInv n g0) (s : zScr g0 g) (ha : a < 4) (hm : m ≤ 8) (l2 : g0 222 18 = nI m) (Wd : zWds g0 m (g0 182)) (l3 : ∀ i, i < m → g0 182 i = g0 232 i) : ∀ d i q, i + d = m → d < q → f223_16 K q (nI a) (zlk g0 a i) (zAl g0 a) (nI i) g = some (zlk g0 a m, g) := by
  obtain ⟨T, w, b1, w10, T5, hA⟩ := zAl_n hn I ha
  intro d
  induction d with
  | zero =>
    intro i q h1 h2
    obtain ⟨q, rfl⟩ : ∃ z, q = z + 1 := ⟨q - 1, by omega⟩
    rw [f223_16, zScr_222 s (by omega), l2, if_pos (nI_le (by omega) (by omega)), show i = m by omega]
  | succ d ih =>
    intro i q h1 h2
    obtain ⟨q, rfl⟩ : ∃ z, q = z + 1 := ⟨q - 1, by omega⟩
    have := ih (i + 1) q (by omega) (by omega)
    rw [zlk_s] at this
    rw [f223_16, zScr_222 s (by omega), l2, if_neg (nI_ge (by omega) (by omega)), if_pos (zin_i (show i < 8 by omega) (by decide)), nI_clamp (show i < 2 ^ 31 by omega), zScr_c s (c := 232) (by omega), ← l3 i (by omega)]
    unfold f223_69
    rw [nI_1]
    rcases Wd i (by omega) with h | ⟨v, v1, v2, v3⟩
    · rw [if_neg (fun z => z h)]
      rw [if_pos h] at this
      exact this
    · have hn1 : ¬ g0 182 i = -1 := by rw [v2]; exact nI_nm1 (by omega)
      have hv : v < w := by rw [b1] at v3; exact (nI_ltI (by omega) (by omega)).mp v3
      have e : g 223 (17 + 10 * a + v) = g0 44 (a * 10 + v) := by
        rw [zScr_c s (by omega), show 17 + 10 * a + v = 0 + 17 + (a * 10 + v) by omega]
        exact (I.2.2.1.2.2.2.1 (a * 10 + v) (by omega)).1.symm
      rw [if_pos hn1, if_pos (zin_i (show i < 8 by omega) (by decide)), v2, show (17 : Int32) = nI 17 from rfl, show (10 : Int32) = nI 10 from rfl, nI_mu, nI_add, nI_add, if_pos (zin_i (show 17 + 10 * a + v < 803 by omega) (by decide)), if_pos (show ¬ zAl g0 a = 0 by rw [hA]; exact nI_ne0 (by omega) (by omega)), nI_clamp (show 17 + 10 * a + v < 2 ^ 31 by omega), e]
      rw [if_neg hn1, v2, nI_clamp (by omega)] at this
      exact this
theorem f223_eq {K n a m : Nat} {g0 g : zS} (hK : 20 ≤ K) (hn : n ≤ 64) (I : zInv n g0) (s : zScr g0 g) (ha : a < 4) (hm : m ≤ 8) (l2 : g0 222 18 = nI m) (Wd : zWds g0 m (g0 182)) (l3 : ∀ i, i < m → g0 182 i = g0 232 i) : f223 K (nI a) g = some (zlk g0 a m, g) := by
  have e : zfo (fun i => g 223 (17 + 10 * a + i)) 10 0 0 = zfo (fun i => g0 (34 + 10) (a * 10 + i)) 10 0 0 := zfo_congr fun j _ hj => by
    show g 223 (17 + 10 * a + j) = g0 (34 + 10) (a * 10 + j)
    rw [zScr_c s (by omega), (I.2.2.1.2.2.2.1 (a * 10 + j) (by omega)).1, show 0 + 17 + (a * 10 + j) = 17 + 10 * a + j by omega]
  obtain ⟨w, p, c, r, l, b0, ⟨b1, -⟩, ⟨c1, -⟩, -⟩ := I.2.1
  unfold f223 f171
  rw [show f171_4 K K (nI a) 0 0 g = some (zfo (fun i => g 223 (17 + 10 * a + i)) 10 0 0, g) from f171_lp ha 10 0 K 0 (by omega) (by omega), zbd_s, e, zScr_222 s (by omega), c1, ← b1]
  exact f223_lp hn I s ha hm l2 Wd l3 m 0 K (by omega) (by omega)
theorem zp_likeness {K : Nat} (hK : 20 ≤ K) (n : Nat) (hn : n < 64) (x : Int32) : zPair (zInv n) (zInv (n + 1)) (f133 K x) (f222 K x) := by
  refine zPair_scr fun g I => ?_
  obtain ⟨p, r, p4, r20, b1, b2, -, -, -⟩ := zpe I
  obtain ⟨m, m8, l1, l2, Wd, l3⟩ := zli I
  by_cases hx : zwi x 0 (nI p - 1) = 0
  · refine ⟨-2, zR_eq (g := g) ?_ ⟨rfl, zScr_0⟩, fun g1 s1 => zR_eq (g := g1) ?_ ⟨rfl, s1⟩⟩
    · unfold f133
      rw [f53_s zScr_0 b1, zbd_s, if_pos hx]
    · unfold f222
      rw [f170_s s1 b2, zbd_s, if_pos hx]
  obtain ⟨a, a1, rfl⟩ := zwi_cnt (by omega) hx
  refine ⟨zlk g a m, zR_eq (g := g) ?_ ⟨rfl, zScr_0⟩, fun g1 s1 => zR_eq (g := g1) ?_ ⟨rfl, s1⟩⟩
  · unfold f133
    rw [f53_s zScr_0 b1, zbd_s, if_neg hx, f134_eq hK (by omega) I (by omega) m8 l1 Wd, zbd_s]
  · unfold f222
    rw [f170_s s1 b2, zbd_s, if_neg hx, f223_eq hK (by omega) I s1 (by omega) m8 l2 Wd l3, zbd_s]
/-- whose likeness is greatest -/
def zau (L : Nat → Int32) : Nat → Nat → Nat → Nat
  | 0, _, b => b
  | d + 1, i, b => zau L d (i + 1) (if L b < L i then i else b)
theorem zau_s {L : Nat → Int32} {d i b : Nat} : zau L (d + 1) i b = zau L d (i + 1) (if L b < L i then i else b) := rfl
theorem f135_lp {K n m p : Nat} {g0 : zS} (hK : 20 ≤ K) (hn : n ≤ 64) (I : zInv n g0) (hp : p ≤ 4) (b1 : g0 4 1 = nI p) (hm : m ≤ 8) (l1 : g0 180 1 = nI m) (Wd : zWds g0 m (g0 182)) : ∀ d i q b, i + d = p → d < q → b < i → f135_25 K q (nI b) (zlk g0 b m) (nI i) g0 = some (nI (zau (fun a => zlk g0 a m) d i b), g0) := by
  intro d
  induction d with
  | zero =>
    intro i q b h1 h2 h3
    obtain ⟨q, rfl⟩ : ∃ z, q = z + 1 := ⟨q - 1, by omega⟩
    rw [f135_25, b1, if_pos (nI_le (by omega) (by omega))]
    rfl
  | succ d ih =>
    intro i q b h1 h2 h3
    obtain ⟨q, rfl⟩ : ∃ z, q = z + 1 := ⟨q - 1, by omega⟩
    rw [f135_25, b1, if_neg (nI_ge (by omega) (by omega)), f134_eq hK hn I (by omega) hm l1 Wd, zbd_s, zau_s]
    unfold f135_54
    rw [nI_1]
    by_cases z : zlk g0 b m < zlk g0 i m
    · rw [if_neg (fun y => znle.mp y z), if_pos z]
      exact ih (i + 1) q i (by omega) (by omega) (by omega)
    · rw [if_pos (znle.mpr z), if_neg z]
      exact ih (i + 1) q b (by omega) (by omega) (by omega)
theorem f224_40_lp {K n m p c : Nat} {g0 g : zS} (hK : 20 ≤ K) (hn : n ≤ 64) (I : zInv n g0) (s : zScr g0 g) (hp : p ≤ 4) (b2 : g0 222 14 = nI p) (hm : m ≤ 8) (l2 : g0 222 18 = nI m) (Wd : zWds g0 m (g0 182)) (l3 : ∀ i, i < m → g0 182 i = g0 232 i) (hc : 0 < c) (hc8 : c ≤ 8) : ∀ d i q b, i + d = p → d < q → b < i → f224_40 K q (nI c) (nI b) (nI i) g = some (nI (zau (fun a => zlk g0 a m) d i b), g) := by
  intro d
  induction d with
  | zero =>
    intro i q b h1 h2 h3
    obtain ⟨q, rfl⟩ : ∃ z, q = z + 1 := ⟨q - 1, by omega⟩
    rw [f224_40, zScr_222 s (by omega), b2, if_pos (nI_le (by omega) (by omega))]
    rfl
  | succ d ih =>
    intro i q b h1 h2 h3
    obtain ⟨q, rfl⟩ : ∃ z, q = z + 1 := ⟨q - 1, by omega⟩
    rw [f224_40, zScr_222 s (by omega), b2, if_neg (nI_ge (by omega) (by omega)), if_neg (nI_nle hc (by omega)), if_neg (nI_nm1 (by omega)), f223_eq hK hn I s (by omega) hm l2 Wd l3, zbd_s, f223_eq hK hn I s (by omega) hm l2 Wd l3, zbd_s, zau_s]
    unfold f224_70 f224_75
    rw [nI_1]
    by_cases z : zlk g0 b m < zlk g0 i m
    · rw [if_neg (fun y => znle.mp y z), if_pos z]
      exact ih (i + 1) q i (by omega) (by omega) (by omega)
    · rw [if_pos (znle.mpr z), if_neg z]
      exact ih (i + 1) q b (by omega) (by omega) (by omega)
theorem zhc_s2 {U : Nat → Int32} {i : Nat} : (i + 1) - zhc U (i + 1) = (i - zhc U i) + (if U i = -1 then 0 else 1) := by
  have := @zhc_le U i
  rw [zhc_s]
  by_cases h : U i = -1
  · rw [if_pos h, if_pos h]; omega
  · rw [if_neg h, if_neg h]; omega
theorem f224_lp {K m : Nat} {g0 g : zS} (s : zScr g0 g) (hm : m ≤ 8) (l2 : g0 222 18 = nI m) (l3 : ∀ i, i < m → g0 182 i = g0 232 i) : ∀ d i q, i + d = m → d < q → f224_4 K q (nI (i - zhc (g0 182) i)) (nI i) g = f224_40 K K (nI (m - zhc (g0 182) m)) (-1) 0 g := by
  intro d
  induction d with
  | zero =>
    intro i q h1 h2
    obtain ⟨q, rfl⟩ : ∃ z, q = z + 1 := ⟨q - 1, by omega⟩
    rw [f224_4, zScr_222 s (by omega), l2, if_pos (nI_le (by omega) (by omega)), show i = m by omega]
  | succ d ih =>
    intro i q h1 h2
    obtain ⟨q, rfl⟩ : ∃ z, q = z + 1 := ⟨q - 1, by omega⟩
    have := ih (i + 1) q (by omega) (by omega)
    rw [zhc_s2] at this
    rw [f224_4, zScr_222 s (by omega), l2, if_neg (nI_ge (by omega) (by omega)), if_pos (zin_i (show i < 8 by omega) (by decide)), nI_clamp (show i < 2 ^ 31 by omega), zScr_c s (c := 232) (by omega), ← l3 i (by omega)]
    unfold f224_28
    rw [nI_1]
    by_cases h : g0 182 i = -1
    · rw [if_neg (fun z => z h), Int32.add_zero, nI_1]
      rw [if_pos h, Nat.add_zero] at this
      exact this
    · rw [if_pos h, nI_1]
      rw [if_neg h] at this
      exact this
theorem zp_author {K : Nat} (hK : 20 ≤ K) (n : Nat) (hn : n < 64) : zPair (zInv n) (zInv (n + 1)) (f135 K) (f224 K) := by
  refine zPair_scr fun g I => ?_
  obtain ⟨p, r, p4, r20, b1, b2, -, -, -⟩ := zpe I
  obtain ⟨m, m8, l1, l2, Wd, l3⟩ := zli I
  have hc := @zhc_le (g 182) m
  obtain ⟨K, rfl⟩ : ∃ q, K = q + 1 := ⟨K - 1, by omega⟩
  have R : ∀ g1, zScr g g1 → f224 (K + 1) g1 = f224_40 (K + 1) (K + 1) (nI (m - zhc (g 182) m)) (-1) 0 g1 := fun g1 s1 => f224_lp (K := K + 1) s1 m8 l2 l3 m 0 (K + 1) (by omega) (by omega)
  by_cases h0 : m = zhc (g 182) m
  · refine ⟨-1, zR_eq (g := g) ?_ ⟨rfl, zScr_0⟩, fun g1 s1 => zR_eq (g := g1) ?_ ⟨rfl, s1⟩⟩
    · unfold f135
      rw [f77_eq hK (zLn_180 zScr_0 m8 l1), zbd_s, l1, ← h0, if_neg (fun z => z rfl)]
    · rw [R g1 s1, ← h0, Nat.sub_self, f224_40, zScr_222 s1 (by omega), b2]
      by_cases hp : p = 0
      · rw [if_pos (by rw [hp]; decide)]
      · rw [if_neg (show ¬ nI p ≤ 0 from nI_nle (by omega) (by omega)), if_pos (by decide)]
  · have C : f135 (K + 1) g = f135_25 (K + 1) (K + 1) (-1) (-1) 0 g := by
      unfold f135
      rw [f77_eq hK (zLn_180 zScr_0 m8 l1), zbd_s, l1, if_pos (fun z => h0 ((nI_eq (by omega) (by omega)).mp z))]
    by_cases hp : p = 0
    · refine ⟨-1, zR_eq (g := g) ?_ ⟨rfl, zScr_0⟩, fun g1 s1 => zR_eq (g := g1) ?_ ⟨rfl, s1⟩⟩
      · rw [C, f135_25, b1, if_pos (by rw [hp]; decide)]
      · rw [R g1 s1, f224_40, zScr_222 s1 (by omega), b2, if_pos (by rw [hp]; decide)]
    · obtain ⟨d, hd⟩ : ∃ d, p = d + 1 := ⟨p - 1, by omega⟩
      obtain ⟨T, T1, T2⟩ := zlk_n (n := n) (a := 0) (by omega) I (by omega) m8 Wd m (by omega)
      refine ⟨nI (zau (fun a => zlk g a m) d 1 0), zR_eq (g := g) ?_ ⟨rfl, zScr_0⟩, fun g1 s1 => zR_eq (g := g1) ?_ ⟨rfl, s1⟩⟩
      · rw [C, f135_25, b1, if_neg (show ¬ nI p ≤ 0 from nI_nle (by omega) (by omega)), show f134 (K + 1) 0 g = some (zlk g 0 m, g) from f134_eq (a := 0) hK (by omega) I (by omega) m8 l1 Wd, zbd_s, if_neg (show ¬ zlk g 0 m ≤ -1 by rw [T2, Int32.le_iff_toInt_le, nI_toInt (by omega), show (-1 : Int32).toInt = -1 from rfl]; omega)]
        exact f135_lp (K := K + 1) (by omega) (by omega) I p4 b1 m8 l1 Wd d 1 K 0 (by omega) (by omega) (by omega)
      · rw [R g1 s1, f224_40, zScr_222 s1 (by omega), b2, if_neg (show ¬ nI p ≤ 0 from nI_nle (by omega) (by omega)), if_neg (nI_nle (by omega) (by omega)), if_pos rfl]
        exact f224_40_lp (K := K + 1) (by omega) (by omega) I s1 p4 b2 m8 l2 Wd l3 (by omega) (by omega) d 1 K 0 (by omega) (by omega) (by omega)
