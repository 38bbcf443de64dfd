-- ===== page =====
def zPg (g0 : zS) (h : Int32) (D : Nat) (set : Nat) : Bool := decide (¬ h < zss (fun e => nI (zdC g0 0 (g0 34 0) e)) set D)
def zVw (g0 : zS) (D : Nat) (set : Nat) : Int32 := zss (zdW g0) set D
theorem z2D {D : Nat} (h : D ≤ 6) : 2 ^ D ≤ 64 := Nat.le_trans (Nat.pow_le_pow_right (by decide) h) (by decide)
theorem f126_lp {K D : Nat} {h : Int32} {g0 : zS} (hK : 20 ≤ K) (hD6 : D ≤ 6) (hD : g0 186 4 = nI D) : ∀ d i n b (g : zS), i + d = 2 ^ D → d < n → zScr g0 g → (∀ e, e < D → g 192 e = nI (zdC g0 0 (g0 34 0) e)) → (∀ e, e < D → g 194 e = zdW g0 e) → g 186 5 = zVw g0 D b → g 186 6 = nI b → ∃ g', f126_12 K n h (nI i) g = some ((), g') ∧ zScr g0 g' ∧ g' 186 5 = zVw g0 D (zbs (zPg g0 h D) (zVw g0 D) d i b) ∧ g' 186 6 = nI (zbs (zPg g0 h D) (zVw g0 D) d i b) := by
  have h64 := z2D hD6
  intro d
  induction d with
  | zero =>
    intro i n b g h1 h2 s hc hw h5 h6
    obtain ⟨n, rfl⟩ : ∃ q, n = q + 1 := ⟨n - 1, by omega⟩
    refine ⟨g, ?_, s, h5, h6⟩
    rw [f126_12, s 186 4 (by unfold zKeep; omega), hD, nx_one (by omega), if_pos (nI_le (by omega) (by omega))]
  | succ d ih =>
    intro i n b g h1 h2 s hc hw h5 h6
    obtain ⟨n, rfl⟩ : ∃ q, n = q + 1 := ⟨n - 1, by omega⟩
    have hD' : g 186 4 = nI D := by rw [s 186 4 (by unfold zKeep; omega), hD]
    rw [f126_12, hD', nx_one (by omega), if_neg (nI_ge (by omega) (by omega)), f127_eq hK zl192 hD' hD6 (by omega) hc, zbd_s, zbs_s]
    unfold f126_40
    rw [nI_1]
    by_cases q : h < zss (fun e => nI (zdC g0 0 (g0 34 0) e)) i D
    · have : zPg g0 h D i = false := decide_eq_false (fun z => z q)
      rw [if_pos q, this, if_neg (fun z => absurd z.1 (by decide))]
      exact ih (i + 1) n b g (by omega) (by omega) s hc hw h5 h6
    · have hp : zPg g0 h D i = true := decide_eq_true q
      obtain ⟨g1, e1, e2, e3, e4, e5, e6⟩ := zoffer (p := zPg g0 h D i) hK s hD' hD6 (show i < 2 ^ 31 by omega) hw h5 h6 hp
      rw [if_neg q, e1, zbd_s]
      exact ih (i + 1) n _ g1 (by omega) (by omega) e2 (fun e he => by rw [e3 192 (by decide)]; exact hc e he) (fun e he => by rw [e3 194 (by decide)]; exact hw e he) e5 e6
theorem f205_sp {K n m : Nat} {U : Nat → Int32} {g0 g : zS} (hK : 20 ≤ K) (I : zInv n g0) (s : zScr g0 g) (Wd : zWds g0 m U) (T : zTr m U g) : ∃ g', f205 K g = some (nI (zPr g0 0 (g0 34 0) m U), g') ∧ zScr g0 g' ∧ ∀ c, c ≠ 236 → g' c = g c := by
  obtain ⟨g', e1, e2, e3⟩ := f174_sp (kk := 0) (x := g0 34 0) hK I.2.1 s Wd T (by omega)
  refine ⟨g', ?_, e2, e3⟩
  unfold f205
  rw [if_pos (show zin (0 : Int32) 803 by decide), zwk I s, show f174 K 0 (g0 34 0) g = some (nI (zPr g0 0 (g0 34 0) m U), g') from e1, zbd_s]
theorem f218_47_lp {K n D set b : Nat} {h x2 : Int32} {g0 : zS} {k : Int32 → Int32 → Int32 → Int32 → zS → Option (Int32 × zS)} (hK : 20 ≤ K) (I : zInv n g0) (hD6 : D ≤ 6) (hD : g0 222 21 = nI D) (hs : set < 1000) (hb : b < 1000) (hd : ∀ e, e < D → zdM g0 e ≤ 8 ∧ g0 (195 + 3 * e) 1 = nI (zdM g0 e) ∧ g0 234 e = nI (zdM g0 e) ∧ zWds g0 (zdM g0 e) (zdU g0 e) ∧ (∀ i, i < zdM g0 e → zdU g0 e i = g0 233 (8 * e + i))) : ∀ d i q (g : zS), i + d = D → d < q → zScr g0 g → ∃ g', f218_47 K k q h x2 (nI b) (nI set) (zss (fun e => nI (zdC g0 0 (g0 34 0) e)) set i) (nI i) g = k h x2 (nI (if zPg g0 h D set = true ∧ zVw g0 D b < zVw g0 D set then set else b)) (nI (set + 1)) g' ∧ zScr g0 g' := by
  intro d
  induction d with
  | zero =>
    intro i q g h1 h2 s
    obtain ⟨q, rfl⟩ : ∃ z, q = z + 1 := ⟨q - 1, by omega⟩
    rw [f218_47, zScr_222 s (by omega), hD, if_pos (nI_le (by omega) (by omega)), show i = D by omega]
    unfold f218_116 f218_117
    rw [nI_1]
    by_cases z : h < zss (fun e => nI (zdC g0 0 (g0 34 0) e)) set D
    · have : zPg g0 h D set = false := decide_eq_false (fun y => y z)
      refine ⟨g, ?_, s⟩
      rw [if_pos z, this, if_neg (fun z => absurd z.1 (by decide))]
    · have hp : zPg g0 h D set = true := decide_eq_true z
      obtain ⟨g1, e1, e2⟩ := f219_sp hK I hD6 hD (show set < 2 ^ 31 by omega) hd s
      obtain ⟨g2, e3, e4⟩ := f219_sp hK I hD6 hD (show b < 2 ^ 31 by omega) hd e2
      refine ⟨g2, ?_, e4⟩
      rw [if_neg z, e1, zbd_s, e3, zbd_s]
      by_cases y : zVw g0 D b < zVw g0 D set
      · rw [if_neg (show ¬ zss (zdW g0) set D ≤ zss (zdW g0) b D from fun w => znle.mp w y), if_pos ⟨hp, y⟩]
      · rw [if_pos (show zss (zdW g0) set D ≤ zss (zdW g0) b D from znle.mpr y), if_neg (fun w => y w.2)]
  | succ d ih =>
    intro i q g h1 h2 s
    obtain ⟨q, rfl⟩ : ∃ z, q = z + 1 := ⟨q - 1, by omega⟩
    obtain ⟨m8, m1, m2, Wd, m3⟩ := hd i (by omega)
    obtain ⟨g1, u1, u2, u3, -⟩ := f217_sp hK s (show i < 6 by omega) m8 m2 m3
    rw [f218_47, zScr_222 s (by omega), hD, if_neg (nI_ge (by omega) (by omega)), u1, zbd_s, f177_eq (show set < 2 ^ 31 by omega) (show i < 16 by omega), zbd_s]
    unfold f218_82
    rw [nI_1]
    cases hb : set.testBit i with
    | false =>
      obtain ⟨g', e1, e2⟩ := ih (i + 1) q g1 (by omega) (by omega) u2
      refine ⟨g', ?_, e2⟩
      rw [zss_s, hb, if_neg (by decide)] at e1
      rw [if_pos (by decide)]
      exact e1
    | true =>
      obtain ⟨g2, v1, v2, -⟩ := f205_sp hK I u2 Wd u3
      obtain ⟨g', e1, e2⟩ := ih (i + 1) q g2 (by omega) (by omega) v2
      refine ⟨g', ?_, e2⟩
      rw [zss_s, hb, if_pos rfl] at e1
      rw [if_neg (by decide), v1, zbd_s]
      exact e1
theorem f218_lp {K n D : Nat} {h x2 : Int32} {g0 : zS} (hK : 20 ≤ K) (I : zInv n g0) (hD6 : D ≤ 6) (hD : g0 222 21 = nI D) (hd : ∀ e, e < D → zdM g0 e ≤ 8 ∧ g0 (195 + 3 * e) 1 = nI (zdM g0 e) ∧ g0 234 e = nI (zdM g0 e) ∧ zWds g0 (zdM g0 e) (zdU g0 e) ∧ (∀ i, i < zdM g0 e → zdU g0 e i = g0 233 (8 * e + i))) : ∀ d i q b (g : zS), i + d = 2 ^ D → d < q → b < i → zScr g0 g → ∃ g', f218_30 K q h x2 (nI b) (nI i) g = some (if x2 = 0 then zVw g0 D (zbs (zPg g0 h D) (zVw g0 D) d i b) else nI (zbs (zPg g0 h D) (zVw g0 D) d i b), g') ∧ zScr g0 g' := by
  have h64 := z2D hD6
  intro d
  induction d with
  | zero =>
    intro i q b g h1 h2 h3 s
    obtain ⟨q, rfl⟩ : ∃ z, q = z + 1 := ⟨q - 1, by omega⟩
    rw [f218_30, zScr_222 s (by omega), hD, nx_one (by omega), if_pos (nI_le (by omega) (by omega))]
    by_cases z : x2 = 0
    · obtain ⟨g1, e1, e2⟩ := f219_sp hK I hD6 hD (show b < 2 ^ 31 by omega) hd s
      refine ⟨g1, ?_, e2⟩
      rw [if_neg (fun y => y z), e1, zbd_s, if_pos z]
      rfl
    · refine ⟨g, ?_, s⟩
      rw [if_pos z, if_neg z]
      rfl
  | succ d ih =>
    intro i q b g h1 h2 h3 s
    obtain ⟨q, rfl⟩ : ∃ z, q = z + 1 := ⟨q - 1, by omega⟩
    obtain ⟨g1, e1, e2⟩ := f218_47_lp (K := K) (h := h) (x2 := x2) (set := i) (b := b) (k := f218_30 K q) hK I hD6 hD (by omega) (by omega) hd D 0 K g (by omega) (by omega) s
    obtain ⟨g2, e3, e4⟩ := ih (i + 1) q (if zPg g0 h D i = true ∧ zVw g0 D b < zVw g0 D i then i else b) g1 (by omega) (by omega) (by
      by_cases z : zPg g0 h D i = true ∧ zVw g0 D b < zVw g0 D i
      · rw [if_pos z]; omega
      · rw [if_neg z]; omega) e2
    refine ⟨g2, ?_, e4⟩
    rw [f218_30, zScr_222 s (by omega), hD, nx_one (by omega), if_neg (nI_ge (by omega) (by omega))]
    exact e1.trans e3
theorem zbs_0 {P : Nat → Bool} {V : Nat → Int32} {d : Nat} : zbs P V (d + 1) 0 0 = zbs P V d 1 0 := by
  rw [zbs_s, if_neg (fun z => zlt_irr _ z.2)]
theorem z2D1 (D : Nat) : ∃ d, 2 ^ D = d + 1 := ⟨2 ^ D - 1, by have := Nat.two_pow_pos D; omega⟩
theorem zp_page {K : Nat} (hK : 100 ≤ K) (n : Nat) (x y : Int32) : zPair (zInv n) (zInv (n + 1)) (f123 K x y) (f218 K x y) := by
  refine zPair_scr fun g I => ?_
  obtain ⟨D, D6, q1, q2, hd⟩ := zdr2 I
  have h64 := z2D D6
  by_cases hx : zwi x 0 99 = 0
  · refine ⟨-3, zR_eq (g := g) ?_ ⟨rfl, zScr_0⟩, fun g1 s1 => zR_eq (g := g1) ?_ ⟨rfl, s1⟩⟩
    · unfold f123
      rw [f12_eq, zbd_s, if_pos hx]
    · unfold f218
      rw [i64_0, i64_99, f146_eq, zbd_s, if_pos hx]
  by_cases hy : zwi y 0 1 = 0
  · refine ⟨-3, zR_eq (g := g) ?_ ⟨rfl, zScr_0⟩, fun g1 s1 => zR_eq (g := g1) ?_ ⟨rfl, s1⟩⟩
    · unfold f123
      rw [f12_eq, zbd_s, if_neg hx, f12_eq, zbd_s, if_neg (fun q => q hy)]
    · unfold f218
      rw [i64_0, i64_99, f146_eq, zbd_s, if_neg hx, i64_1, f146_eq, zbd_s, if_neg (fun q => q hy)]
  obtain ⟨dd, hdd⟩ := z2D1 D
  refine ⟨if y = 0 then zVw g D (zbs (zPg g x D) (zVw g D) dd 1 0) else nI (zbs (zPg g x D) (zVw g D) dd 1 0), ?_, fun g1 s1 => ?_⟩
  · obtain ⟨g1, a1, a2, a3, a4⟩ := f124_lp (K := K) (by omega) I D6 q1 hd D 0 K g (by omega) (by omega) zScr_0
    obtain ⟨g2, c1, c2, c3, c4⟩ := f59_sp (K := K) (x := g 34 0) (by omega) I.2.1 a2
    obtain ⟨g3, d1, d2, d3, d4⟩ := f125_lp (K := K) (x := g 34 0) (by omega) I D6 q1 hd D 0 K g2 (by omega) (by omega) c2 c4
    have s4 : zScr g (zup (zup g3 186 5 0) 186 6 0) := zScr_up (zScr_up d2 (by unfold zKeep; omega)) (by unfold zKeep; omega)
    obtain ⟨g5, e1, e2, e3, e4⟩ := f126_lp (K := K) (h := x) (by omega) D6 q1 (2 ^ D) 0 K 0 (zup (zup g3 186 5 0) 186 6 0) (by omega) (by omega) s4 (fun e he => by rw [zup_c (by decide), zup_c (by decide), d4 e he, if_pos (by omega)]) (fun e he => by rw [zup_c (by decide), zup_c (by decide), d3 194 (by decide), c3 194 (by decide) (by decide), a4 e he, if_pos (by omega)]) (by
      show (zup (zup g3 186 5 0) 186 6 0) 186 5 = zss (zdW g) 0 D
      rw [zup_k (by decide), zup_s, zss_0]) (by rw [zup_s]; rfl)
    rw [hdd, zbs_0] at e3 e4
    refine zR_eq (g := g5) ?_ ⟨rfl, e2⟩
    have hd1 : f125 K 4 (g1 34 0) g1 = some ((), g3) := by
      unfold f125
      rw [show g1 34 0 = g 34 0 by rw [a3 34 (by decide)], c1, zbd_s]
      exact d1
    unfold f123 f124 f126
    rw [f12_eq, zbd_s, if_neg hx, f12_eq, zbd_s, if_pos hy, show f124_2 K K 4 0 g = some ((), g1) from a1, zbd_s, hd1, zbd_s, show f126_12 K K x 0 (zup (zup g3 186 5 0) 186 6 0) = some ((), g5) from e1, zbd_s, e3, e4]
    by_cases z : y = 0
    · rw [if_neg (fun q => q z), if_pos z]
    · rw [if_pos z, if_neg z]
  · obtain ⟨g2, e1, e2⟩ := f218_lp (K := K) (h := x) (x2 := y) (by omega) I D6 q2 hd dd 1 K 0 g1 (by omega) (by omega) (by omega) s1
    refine zR_eq (g := g2) ?_ ⟨rfl, e2⟩
    unfold f218
    rw [i64_0, i64_99, f146_eq, zbd_s, if_neg hx, i64_1, f146_eq, zbd_s, if_pos hy]
    exact e1
