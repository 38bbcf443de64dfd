-- ===== drafts: worth, what is laid, draft, drafted =====
def zwo (g0 : zS) (U : Nat → Int32) : Nat → Int32
  | 0 => 0
  | i + 1 => zwo g0 U i + (if U i = -1 then 0 else g0 8 (U i).toNatClampNeg)
theorem zwo_s {g0 : zS} {U : Nat → Int32} {i : Nat} : zwo g0 U (i + 1) = zwo g0 U i + (if U i = -1 then 0 else g0 8 (U i).toNatClampNeg) := rfl
theorem f83_lp {K o m : Nat} {U : Nat → Int32} {g0 g : zS} (s : zScr g0 g) (L : zLn o m U g) (Wd : zWds g0 m U) : ∀ d i n, i + d = m → d < n → f83_4 K n 4 o (zwo g0 U i) (nI i) g = some (zwo g0 U m, g) := by
  have hm := L.2.1
  intro d
  induction d with
  | zero =>
    intro i n h3 h4
    obtain ⟨n, rfl⟩ : ∃ q, n = q + 1 := ⟨n - 1, by omega⟩
    rw [f83_4, L.2.2.1, if_pos (nI_le (by omega) (by omega)), show i = m by omega]
  | succ d ih =>
    intro i n h3 h4
    obtain ⟨n, rfl⟩ : ∃ q, n = q + 1 := ⟨n - 1, by omega⟩
    have := ih (i + 1) n (by omega) (by omega)
    rw [zwo_s] at this
    rw [f83_4, L.2.2.1, if_neg (nI_ge (by omega) (by omega)), f62_eq L (by omega), zbd_s, if_pos (show i < m by omega)]
    unfold f83_39
    rw [nI_1]
    rcases Wd i (by omega) with h | ⟨w, w1, w2, w3⟩
    · rw [if_neg (fun z => z h)]
      rw [if_pos h] at this
      exact this
    · have hn : ¬ U i = -1 := by rw [w2]; exact nI_nm1 (by omega)
      rw [if_pos hn, w2, f21_eq (by exact (show w < 10 by omega)) (by decide), zbd_s]
      rw [if_neg hn, w2, nI_clamp (by omega)] at this
      rw [show g (4 + 3 + 1) w = g0 8 w by rw [zScr_c s (by omega)]]
      exact this
theorem f83_sp {K o m : Nat} {U : Nat → Int32} {g0 g : zS} (hK : 20 ≤ K) (s : zScr g0 g) (L : zLn o m U g) (Wd : zWds g0 m U) : f83 K 4 o g = some (zwo g0 U m, g) := by
  have := L.2.1
  exact f83_lp s L Wd m 0 K (by omega) (by omega)
theorem f190_lp {K m : Nat} {U : Nat → Int32} {g0 g : zS} (I : zIto g0) (s : zScr g0 g) (T : zTr m U g) (Wd : zWds g0 m U) : ∀ d i n, i + d = m → d < n → f190_4 K n (zwo g0 U i) (nI i) g = some (zwo g0 U m, g) := by
  have hm := T.1
  obtain ⟨w, p, c, r, l, b0, ⟨b1, -⟩, -, d1, -⟩ := id I
  intro d
  induction d with
  | zero =>
    intro i n h3 h4
    obtain ⟨n, rfl⟩ : ∃ q, n = q + 1 := ⟨n - 1, by omega⟩
    rw [f190_4, T.2.1, if_pos (nI_le (by omega) (by omega)), show i = m by omega]
  | succ d ih =>
    intro i n h3 h4
    obtain ⟨n, rfl⟩ : ∃ q, n = q + 1 := ⟨n - 1, by omega⟩
    have := ih (i + 1) n (by omega) (by omega)
    rw [zwo_s] at this
    rw [f190_4, T.2.1, if_neg (nI_ge (by omega) (by omega)), if_pos (zin_i (show i < 8 by omega) (by decide)), nI_clamp (show i < 2 ^ 31 by omega), T.2.2 i (by omega)]
    unfold f190_38
    rw [nI_1]
    rcases Wd i (by omega) with h | ⟨v, v1, v2, v3⟩
    · rw [if_neg (fun z => z h)]
      rw [if_pos h] at this
      exact this
    · have hn : ¬ U i = -1 := by rw [v2]; exact nI_nm1 (by omega)
      have hv : v < w := by rw [b1] at v3; exact (nI_ltI (by omega) (by omega)).mp v3
      rw [if_pos hn, if_pos (zin_i (show i < 8 by omega) (by decide)), v2, if_pos (zin_i (show v < 10 by omega) (by decide)), nI_clamp (show v < 2 ^ 31 by omega)]
      rw [if_neg hn, v2, nI_clamp (by omega)] at this
      rw [show g 228 v = g0 8 v by rw [zScr_c s (by omega)]; exact (d1 v hv).2.1.symm]
      exact this
theorem f190_sp {K m : Nat} {U : Nat → Int32} {g0 g : zS} (hK : 20 ≤ K) (I : zIto g0) (s : zScr g0 g) (T : zTr m U g) (Wd : zWds g0 m U) : f190 K g = some (zwo g0 U m, g) := by
  have := T.1
  exact f190_lp I s T Wd m 0 K (by omega) (by omega)
theorem zdr {n : Nat} {g0 : zS} (I : zInv n g0) : ∃ D, D ≤ 6 ∧ g0 186 4 = nI D ∧ g0 222 21 = nI D ∧ ∀ e, e < D → ∃ m, 0 < m ∧ m ≤ 8 ∧ g0 (195 + 3 * e) 1 = nI m ∧ g0 234 e = nI m ∧ zWds g0 m (g0 (195 + 3 * e + 2)) ∧ (∀ i, i < m → g0 (195 + 3 * e + 2) i = g0 233 (8 * e + i)) := by
  obtain ⟨-, D, h1, h2, h3, h4⟩ := I.2.2.2.2.2
  refine ⟨D, h1, h2, h3, fun e he => ?_⟩
  obtain ⟨m, m1, m2, m3, m4, m5⟩ := h4 e he
  exact ⟨m, m1, m2, m3, m4, fun i hi => Or.inr (m5 i hi).2, fun i hi => (m5 i hi).1⟩
theorem zl_dr : ∀ e, e < 6 → zlen (195 + 3 * e + 1 + 1) = 8
  | 0, _ => by decide +kernel
  | 1, _ => by decide +kernel
  | 2, _ => by decide +kernel
  | 3, _ => by decide +kernel
  | 4, _ => by decide +kernel
  | 5, _ => by decide +kernel
  | n + 6, h => by omega
theorem zel187 : ∀ i, i < 6 → zel 187 i = 195 + 3 * i
  | 0, _ => by decide +kernel
  | 1, _ => by decide +kernel
  | 2, _ => by decide +kernel
  | 3, _ => by decide +kernel
  | 4, _ => by decide +kernel
  | 5, _ => by decide +kernel
  | n + 6, h => by omega
theorem f120_eq {K d : Nat} {g : zS} (hd : d < 6) : f120 K (nI d) g = some (195 + 3 * d, g) := by
  unfold f120 f120_23
  rw [if_neg (nI_pos (by omega)), show (6 : Int32) = nI 6 from rfl, if_neg (nI_ge hd (by omega)), if_pos (zin_i hd (by decide)), nI_clamp (by omega), zcs_s, zel187 d hd]
theorem zLn_dr {e m : Nat} {g0 g : zS} (s : zScr g0 g) (he : e < 6) (hm : m ≤ 8) (h : g0 (195 + 3 * e) 1 = nI m) : zLn (195 + 3 * e) m (g0 (195 + 3 * e + 2)) g := ⟨zl_dr e he, hm, by rw [zScr_c s (by omega)]; exact h, fun i _ => by rw [zScr_c s (by omega)]⟩
theorem f217_lp {K e m : Nat} {U : Nat → Int32} {g0 : zS} (he : e < 6) (hm : m ≤ 8) (h1 : g0 234 e = nI m) (h2 : ∀ i, i < m → U i = g0 233 (8 * e + i)) : ∀ d i n (g : zS), i + d = m → d < n → zScr g0 g → ∃ g', f217_2 K n (nI e) (nI i) g = some ((), g') ∧ zScr g0 g' ∧ (∀ c, c ≠ 235 → c ≠ 222 → g' c = g c) ∧ (∀ k, k ≠ 29 → g' 222 k = g 222 k) ∧ g' 222 29 = nI m ∧ ∀ j, j < m → g' 235 j = if i ≤ j then U j else g 235 j := by
  intro d
  induction d with
  | zero =>
    intro i n g h3 h4 s
    obtain ⟨n, rfl⟩ : ∃ q, n = q + 1 := ⟨n - 1, by omega⟩
    refine ⟨zup g 222 29 (nI m), ?_, zScr_up s (by unfold zKeep; omega), fun c q1 q2 => zup_c q2, fun k hk => zup_k hk, zup_s _ _ _ _, fun j hj => by rw [if_neg (by omega), zup_c (by decide)]⟩
    rw [f217_2, if_pos (zin_i he (by decide)), if_pos (zin_i he (by decide)), nI_clamp (by omega), zScr_c s (c := 234) (by omega), h1, if_pos (nI_le (by omega) (by omega))]
  | succ d ih =>
    intro i n g h3 h4 s
    obtain ⟨n, rfl⟩ : ∃ q, n = q + 1 := ⟨n - 1, by omega⟩
    obtain ⟨g', e1, e2, e3, e4, e5, e6⟩ := ih (i + 1) n (zup g 235 i (U i)) (by omega) (by omega) (zScr_up s (by unfold zKeep; omega))
    refine ⟨g', ?_, e2, fun c q1 q2 => by rw [e3 c q1 q2, zup_c q1], fun k hk => by rw [e4 k hk, zup_c (by decide)], e5, fun j hj => ?_⟩
    · rw [f217_2, if_pos (zin_i he (by decide)), nI_clamp (show e < 2 ^ 31 by omega), zScr_c s (c := 234) (by omega), h1, if_neg (nI_ge (by omega) (by omega)), show (8 : Int32) = nI 8 from rfl, nI_mu, nI_add, if_pos (zin_i (show 8 * e + i < 48 by omega) (by decide)), if_pos (zin_i (show i < 8 by omega) (by decide)), nI_clamp (show i < 2 ^ 31 by omega), nI_clamp (show 8 * e + i < 2 ^ 31 by omega), zScr_c s (c := 233) (by omega), ← h2 i (by omega), nI_1, e1]
    · rw [e6 j hj, zup_e]
      by_cases q : j = i
      · rw [if_neg (by omega), if_pos q, if_pos (by omega), q]
      · rw [if_neg q]
        by_cases q2 : i + 1 ≤ j
        · rw [if_pos q2, if_pos (by omega)]
        · rw [if_neg q2, if_neg (by omega)]
/-- layDraft -/
theorem f217_sp {K e m : Nat} {U : Nat → Int32} {g0 g : zS} (hK : 20 ≤ K) (s : zScr g0 g) (he : e < 6) (hm : m ≤ 8) (h1 : g0 234 e = nI m) (h2 : ∀ i, i < m → U i = g0 233 (8 * e + i)) : ∃ g', f217 K (nI e) g = some ((), g') ∧ zScr g0 g' ∧ zTr m U g' ∧ (∀ c, c ≠ 235 → c ≠ 222 → g' c = g c) ∧ ∀ k, k ≠ 29 → g' 222 k = g 222 k := by
  obtain ⟨g', e1, e2, e3, e4, e5, e6⟩ := f217_lp (K := K) he hm h1 h2 m 0 K g (by omega) (by omega) s
  exact ⟨g', e1, e2, ⟨hm, e5, fun j hj => by rw [e6 j hj, if_pos (by omega)]⟩, e3, e4⟩
theorem zwk {n : Nat} {g0 g : zS} (I : zInv n g0) (s : zScr g0 g) : g 223 (0 : Int32).toNatClampNeg = g0 34 0 := by
  rw [zScr_c s (by omega)]
  exact I.2.2.1.2.1.symm
theorem zp_drafted {K : Nat} (hK : 20 ≤ K) (n : Nat) (x y z : Int32) : zPair (zInv n) (zInv (n + 1)) (f122 K x y z) (f216 K x y z) := by
  refine zPair_scr fun g I => ?_
  obtain ⟨p, r, p4, r20, b1, b2, -, -, b3⟩ := zpe I
  obtain ⟨D, D6, q1, q2, q3⟩ := zdr I
  by_cases hx : zwi x 0 (nI D - 1) = 0
  · refine ⟨-2, zR_eq (g := g) ?_ ⟨rfl, zScr_0⟩, fun g1 s1 => zR_eq (g := g1) ?_ ⟨rfl, s1⟩⟩
    · unfold f122
      rw [f12_eq, q1, zbd_s, if_pos hx]
    · unfold f216
      rw [i64_0, f146_eq, zScr_222 s1 (by omega), q2, zbd_s, if_pos hx]
  obtain ⟨e, e1, rfl⟩ := zwi_cnt (by omega) hx
  by_cases hy : zwi y 0 (nI p - 1) = 0
  · refine ⟨-2, zR_eq (g := g) ?_ ⟨rfl, zScr_0⟩, fun g1 s1 => zR_eq (g := g1) ?_ ⟨rfl, s1⟩⟩
    · unfold f122
      rw [f12_eq, q1, zbd_s, if_neg hx, f53_s zScr_0 b1, zbd_s, if_neg (fun q => q hy)]
    · unfold f216
      rw [i64_0, f146_eq, zScr_222 s1 (by omega), q2, zbd_s, if_neg hx, f170_s s1 b2, zbd_s, if_neg (fun q => q hy)]
  obtain ⟨a, a1, rfl⟩ := zwi_cnt (by omega) hy
  obtain ⟨k1, ⟨k, k2, k3⟩, -⟩ := b3 a a1
  obtain ⟨m, m0, m8, m1, m2, Wd, m3⟩ := q3 e e1
  have C : f122 K (nI e) (nI a) z g = (if z = 0 then some (g (195 + 3 * e) 1, g) else if z = 1 then zbd (f59 K 4 (g 34 0) g) fun _ g140 => zbd (f54 K 4 (nI a) g140) fun r144 g143 => zbd (f60 K (195 + 3 * e) r144 g143) fun r147 g146 => some (r147, g146) else if z = 2 then zbd (f83 K 4 (195 + 3 * e) g) fun r151 g150 => some (r151, g150) else some (-3, g)) := by
    unfold f122
    rw [f12_eq, q1, zbd_s, if_neg hx, f53_s zScr_0 b1, zbd_s, if_pos hy, f120_eq (by omega), zbd_s]
  have R : ∀ g1, zScr g g1 → ∃ g2, zScr g g2 ∧ zTr m (g (195 + 3 * e + 2)) g2 ∧ f216 K (nI e) (nI a) z g1 = (if ¬ z = 0 then if ¬ z = 1 then if ¬ z = 2 then some (-3, g2) else (zbd (f190 K g2) fun r131 g130 => some (r131, g130)) else zbd (f174 K (nI k) (g 34 0) g2) fun r135 g134 => some (r135, g134) else some (nI m, g2)) := by
    intro g1 s1
    obtain ⟨g2, u1, u2, u3, -⟩ := f217_sp hK s1 (show e < 6 by omega) m8 m2 m3
    refine ⟨g2, u2, u3, ?_⟩
    unfold f216
    rw [i64_0, f146_eq, zScr_222 s1 (by omega), q2, zbd_s, if_neg hx, f170_s s1 b2, zbd_s, if_pos hy, u1, zbd_s, if_pos (zin_i (show a < 4 by omega) (by decide)), if_pos (show zin (0 : Int32) 803 by decide), nI_clamp (show a < 2 ^ 31 by omega), zwk I u2, zScr_c u2 (c := 230) (by omega), k1, k3, u3.2.1]
  by_cases z0 : z = 0
  · refine ⟨nI m, zR_eq (g := g) ?_ ⟨rfl, zScr_0⟩, fun g1 s1 => ?_⟩
    · rw [C, if_pos z0, m1]
    · obtain ⟨g2, u1, u2, u3⟩ := R g1 s1
      exact zR_eq (g := g2) (by rw [u3, if_neg (fun q => q z0)]) ⟨rfl, u1⟩
  by_cases z1 : z = 1
  · refine ⟨nI (zPr g (nI k) (g 34 0) m (g (195 + 3 * e + 2))), ?_, fun g1 s1 => ?_⟩
    · obtain ⟨g2, u1, u2, u3, u4⟩ := f59_sp (x := g 34 0) hK I.2.1 zScr_0
      refine zR_eq (g := g2) ?_ ⟨rfl, u2⟩
      rw [C, if_neg z0, if_pos z1, u1, zbd_s, f54_s u2 (by omega), zbd_s, f60_sp hK I.2.1 (zLn_dr u2 (by omega) m8 m1) Wd u4, zbd_s, k3]
    · obtain ⟨g2, u1, u2, u3⟩ := R g1 s1
      obtain ⟨g3, v1, v2, -⟩ := f174_sp (x := g 34 0) hK I.2.1 u1 Wd u2 k2
      exact zR_eq (g := g3) (by rw [u3, if_pos z0, if_neg (fun q => q z1), v1, zbd_s]) ⟨rfl, v2⟩
  by_cases z2 : z = 2
  · refine ⟨zwo g (g (195 + 3 * e + 2)) m, zR_eq (g := g) ?_ ⟨rfl, zScr_0⟩, fun g1 s1 => ?_⟩
    · rw [C, if_neg z0, if_neg z1, if_pos z2, f83_sp hK zScr_0 (zLn_dr zScr_0 (by omega) m8 m1) Wd, zbd_s]
    · obtain ⟨g2, u1, u2, u3⟩ := R g1 s1
      exact zR_eq (g := g2) (by rw [u3, if_pos z0, if_pos z1, if_neg (fun q => q z2), f190_sp hK I.2.1 u1 u2 Wd, zbd_s]) ⟨rfl, u1⟩
  · refine ⟨-3, zR_eq (g := g) ?_ ⟨rfl, zScr_0⟩, fun g1 s1 => ?_⟩
    · rw [C, if_neg z0, if_neg z1, if_neg z2]
    · obtain ⟨g2, u1, u2, u3⟩ := R g1 s1
      exact zR_eq (g := g2) (by rw [u3, if_pos z0, if_pos z1, if_pos z2]) ⟨rfl, u1⟩
