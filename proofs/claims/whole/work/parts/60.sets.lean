-- ===== sets of drafts =====
def zdM (g0 : zS) (e : Nat) : Nat := (g0 234 e).toNatClampNeg
def zdU (g0 : zS) (e : Nat) : Nat → Int32 := g0 (195 + 3 * e + 2)
def zdW (g0 : zS) (e : Nat) : Int32 := zwo g0 (zdU g0 e) (zdM g0 e)
def zdC (g0 : zS) (κ x : Int32) (e : Nat) : Nat := zPr g0 κ x (zdM g0 e) (zdU g0 e)
theorem zdr2 {n : Nat} {g0 : zS} (I : zInv n g0) : ∃ D, D ≤ 6 ∧ g0 186 4 = nI D ∧ g0 222 21 = nI D ∧ ∀ e, e < D → zdM g0 e ≤ 8 ∧ g0 (195 + 3 * e) 1 = nI (zdM g0 e) ∧ g0 234 e = nI (zdM g0 e) ∧ zWds g0 (zdM g0 e) (zdU g0 e) ∧ (∀ i, i < zdM g0 e → zdU g0 e i = g0 233 (8 * e + i)) := by
  obtain ⟨D, h1, h2, h3, h4⟩ := zdr I
  refine ⟨D, h1, h2, h3, fun e he => ?_⟩
  obtain ⟨m, m0, m1, m2, m3, m4, m5⟩ := h4 e he
  have : zdM g0 e = m := by
    unfold zdM
    rw [m3, nI_clamp (by omega)]
  rw [this]
  exact ⟨m1, m2, m3, m4, m5⟩
/-- a sum over a set -/
def zss (F : Nat → Int32) (set : Nat) : Nat → Int32
  | 0 => 0
  | i + 1 => zss F set i + (if set.testBit i = true then F i else 0)
theorem zss_s {F : Nat → Int32} {set i : Nat} : zss F set (i + 1) = zss F set i + (if set.testBit i = true then F i else 0) := rfl
theorem zss_0 {F : Nat → Int32} : ∀ {i : Nat}, zss F 0 i = 0 := by
  intro i
  induction i with
  | zero => rfl
  | succ i ih => rw [zss_s, ih, Nat.zero_testBit]; rfl
/-- the best set of those that P lets in, V its worth: of several the least -/
def zbs (P : Nat → Bool) (V : Nat → Int32) : Nat → Nat → Nat → Nat
  | 0, _, b => b
  | d + 1, i, b => zbs P V d (i + 1) (if P i = true ∧ V b < V i then i else b)
theorem zbs_s {P : Nat → Bool} {V : Nat → Int32} {d i b : Nat} : zbs P V (d + 1) i b = zbs P V d (i + 1) (if P i = true ∧ V b < V i then i else b) := rfl
theorem zbs_lt {P : Nat → Bool} {V : Nat → Int32} : ∀ {d i b : Nat}, b < i + d → zbs P V d i b < i + d := by
  intro d
  induction d with
  | zero => intro i b h; exact h
  | succ d ih =>
    intro i b h
    rw [zbs_s]
    have := @ih (i + 1) (if P i = true ∧ V b < V i then i else b) (by
      by_cases q : P i = true ∧ V b < V i
      · rw [if_pos q]; omega
      · rw [if_neg q]; omega)
    omega
theorem zlt_irr (x : Int32) : ¬ x < x := by rw [Int32.lt_iff_toInt_lt]; omega
theorem znle {x y : Int32} : x ≤ y ↔ ¬ y < x := by rw [Int32.lt_iff_toInt_lt, Int32.le_iff_toInt_le]; omega
-- ===== the class: sums over a set, what it offers =====
theorem f127_lp {K o D set : Nat} {F : Nat → Int32} {g : zS} (hz : zlen (o + 1) = 6) (hD : g 186 4 = nI D) (hD6 : D ≤ 6) (hs : set < 2 ^ 31) (hF : ∀ i, i < D → g (o + 1) i = F i) : ∀ d i n, i + d = D → d < n → f127_5 K n o (nI set) (zss F set i) (nI i) g = some (zss F set D, g) := by
  intro d
  induction d with
  | zero =>
    intro i n h3 h4
    obtain ⟨n, rfl⟩ : ∃ q, n = q + 1 := ⟨n - 1, by omega⟩
    rw [f127_5, hD, if_pos (nI_le (by omega) (by omega)), show i = D by omega]
  | succ d ih =>
    intro i n h3 h4
    obtain ⟨n, rfl⟩ : ∃ q, n = q + 1 := ⟨n - 1, by omega⟩
    have := ih (i + 1) n (by omega) (by omega)
    rw [zss_s] at this
    rw [f127_5, hD, if_neg (nI_ge (by omega) (by omega)), f64_eq hs (by omega), zbd_s]
    unfold f127_34
    rw [nI_1]
    cases hb : set.testBit i with
    | false =>
      rw [hb, if_neg (by decide)] at this
      rw [if_pos (by decide)]
      exact this
    | true =>
      rw [hb, if_pos rfl] at this
      rw [if_neg (by decide), f21_eq (by rw [hz]; omega) (by rw [hz]; decide), zbd_s, hF i (by omega)]
      exact this
theorem f127_eq {K o D set : Nat} {F : Nat → Int32} {g : zS} (hK : 20 ≤ K) (hz : zlen (o + 1) = 6) (hD : g 186 4 = nI D) (hD6 : D ≤ 6) (hs : set < 2 ^ 31) (hF : ∀ i, i < D → g (o + 1) i = F i) : f127 K o (nI set) g = some (zss F set D, g) := f127_lp hz hD hD6 hs hF D 0 K (by omega) (by omega)
theorem zl194 : zlen (193 + 1) = 6 := by decide +kernel
theorem zl192 : zlen (191 + 1) = 6 := by decide +kernel
/-- offer -/
theorem f128_eq {K D set b : Nat} {W : Nat → Int32} {g : zS} (hK : 20 ≤ K) (hD : g 186 4 = nI D) (hD6 : D ≤ 6) (hs : set < 2 ^ 31) (hW : ∀ i, i < D → g 194 i = W i) (h5 : g 186 5 = zss W b D) : f128 K (nI set) g = some ((), if zss W b D < zss W set D then zup (zup g 186 5 (zss W set D)) 186 6 (nI set) else g) := by
  unfold f128
  rw [f127_eq hK zl194 hD hD6 hs hW, zbd_s, h5]
  by_cases q : zss W b D < zss W set D
  · rw [if_pos q, if_neg (fun z => znle.mp z q)]
  · rw [if_neg q, if_pos (znle.mpr q)]
/-- one turn of choosing: b was best -/
theorem zoffer {K D set b : Nat} {W : Nat → Int32} {g0 g : zS} {p : Bool} (hK : 20 ≤ K) (s : zScr g0 g) (hD : g 186 4 = nI D) (hD6 : D ≤ 6) (hs : set < 2 ^ 31) (hW : ∀ i, i < D → g 194 i = W i) (h5 : g 186 5 = zss W b D) (h6 : g 186 6 = nI b) (hp : p = true) : ∃ g', f128 K (nI set) g = some ((), g') ∧ zScr g0 g' ∧ (∀ c, c ≠ 186 → g' c = g c) ∧ g' 186 4 = nI D ∧ g' 186 5 = zss W (if p = true ∧ zss W b D < zss W set D then set else b) D ∧ g' 186 6 = nI (if p = true ∧ zss W b D < zss W set D then set else b) := by
  refine ⟨_, f128_eq hK hD hD6 hs hW h5, ?_⟩
  by_cases q : zss W b D < zss W set D
  · rw [if_pos q, if_pos ⟨hp, q⟩]
    exact ⟨zScr_up (zScr_up s (by unfold zKeep; omega)) (by unfold zKeep; omega), fun c hc => by rw [zup_c hc, zup_c hc], by rw [zup_k (by decide), zup_k (by decide)]; exact hD, by rw [zup_k (by decide), zup_s], zup_s _ _ _ _⟩
  · rw [if_neg q, if_neg (fun z => q z.2)]
    exact ⟨s, fun c _ => rfl, hD, h5, h6⟩
/-- weigh -/
theorem f124_lp {K n D : Nat} {g0 : zS} (hK : 20 ≤ K) (I : zInv n g0) (hD6 : D ≤ 6) (hD : g0 186 4 = nI D) (hd : ∀ e, e < D → zdM g0 e ≤ 8 ∧ g0 (195 + 3 * e) 1 = nI (zdM g0 e) ∧ g0 234 e = nI (zdM g0 e) ∧ zWds g0 (zdM g0 e) (zdU g0 e) ∧ (∀ i, i < zdM g0 e → zdU g0 e i = g0 233 (8 * e + i))) : ∀ d i k (g : zS), i + d = D → d < k → zScr g0 g → ∃ g', f124_2 K k 4 (nI i) g = some ((), g') ∧ zScr g0 g' ∧ (∀ c, c ≠ 194 → g' c = g c) ∧ ∀ e, e < D → g' 194 e = if i ≤ e then zdW g0 e else g 194 e := by
  intro d
  induction d with
  | zero =>
    intro i k g h1 h2 s
    obtain ⟨k, rfl⟩ : ∃ q, k = q + 1 := ⟨k - 1, by omega⟩
    refine ⟨g, ?_, s, fun c _ => rfl, fun e he => by rw [if_neg (by omega)]⟩
    rw [f124_2, s 186 4 (by unfold zKeep; omega), hD, if_pos (nI_le (by omega) (by omega))]
  | succ d ih =>
    intro i k g h1 h2 s
    obtain ⟨k, rfl⟩ : ∃ q, k = q + 1 := ⟨k - 1, by omega⟩
    obtain ⟨m8, m1, m2, Wd, m3⟩ := hd i (by omega)
    obtain ⟨g', e1, e2, e3, e4⟩ := ih (i + 1) k (zup g 194 i (zdW g0 i)) (by omega) (by omega) (zScr_up s (by unfold zKeep; omega))
    refine ⟨g', ?_, e2, fun c hc => by rw [e3 c hc, zup_c hc], fun e he => ?_⟩
    · rw [f124_2, s 186 4 (by unfold zKeep; omega), hD, if_neg (nI_ge (by omega) (by omega)), f120_eq (by omega), zbd_s, f83_sp hK s (zLn_dr s (by omega) m8 m1) Wd, zbd_s, f14_eq (by rw [zl194]; omega) (by rw [zl194]; decide), zbd_s, nI_1]
      exact e1
    · rw [e4 e he, zup_e]
      by_cases q : e = i
      · rw [if_neg (by omega), if_pos q, if_pos (by omega), q]
      · rw [if_neg q]
        by_cases q2 : i + 1 ≤ e
        · rw [if_pos q2, if_pos (by omega)]
        · rw [if_neg q2, if_neg (by omega)]
/-- priceNow, behind its look-up -/
theorem f125_lp {K n D : Nat} {x : Int32} {g0 : zS} (hK : 20 ≤ K) (I : zInv n g0) (hD6 : D ≤ 6) (hD : g0 186 4 = nI D) (hd : ∀ e, e < D → zdM g0 e ≤ 8 ∧ g0 (195 + 3 * e) 1 = nI (zdM g0 e) ∧ g0 234 e = nI (zdM g0 e) ∧ zWds g0 (zdM g0 e) (zdU g0 e) ∧ (∀ i, i < zdM g0 e → zdU g0 e i = g0 233 (8 * e + i))) : ∀ d i k (g : zS), i + d = D → d < k → zScr g0 g → zKin g0 x g → ∃ g', f125_9 K k (nI i) g = some ((), g') ∧ zScr g0 g' ∧ (∀ c, c ≠ 192 → g' c = g c) ∧ ∀ e, e < D → g' 192 e = if i ≤ e then nI (zdC g0 0 x e) else g 192 e := by
  intro d
  induction d with
  | zero =>
    intro i k g h1 h2 s kn
    obtain ⟨k, rfl⟩ : ∃ q, k = q + 1 := ⟨k - 1, by omega⟩
    refine ⟨g, ?_, s, fun c _ => rfl, fun e he => by rw [if_neg (by omega)]⟩
    rw [f125_9, s 186 4 (by unfold zKeep; omega), hD, if_pos (nI_le (by omega) (by omega))]
  | succ d ih =>
    intro i k g h1 h2 s kn
    obtain ⟨k, rfl⟩ : ∃ q, k = q + 1 := ⟨k - 1, by omega⟩
    obtain ⟨m8, m1, m2, Wd, m3⟩ := hd i (by omega)
    obtain ⟨g', e1, e2, e3, e4⟩ := ih (i + 1) k (zup g 192 i (nI (zdC g0 0 x i))) (by omega) (by omega) (zScr_up s (by unfold zKeep; omega)) ⟨by rw [zup_c (by decide)]; exact kn.1, fun a q1 q2 => by rw [zup_c (by decide)]; exact kn.2 a q1 q2⟩
    refine ⟨g', ?_, e2, fun c hc => by rw [e3 c hc, zup_c hc], fun e he => ?_⟩
    · rw [f125_9, s 186 4 (by unfold zKeep; omega), hD, if_neg (nI_ge (by omega) (by omega)), f120_eq (by omega), zbd_s, f60_sp hK I.2.1 (zLn_dr s (by omega) m8 m1) Wd kn, zbd_s, f14_eq (by rw [zl192]; omega) (by rw [zl192]; decide), zbd_s, nI_1]
      exact e1
    · rw [e4 e he, zup_e]
      by_cases q : e = i
      · rw [if_neg (by omega), if_pos q, if_pos (by omega), q]
      · rw [if_neg q]
        by_cases q2 : i + 1 ≤ e
        · rw [if_pos q2, if_pos (by omega)]
        · rw [if_neg q2, if_neg (by omega)]
-- ===== the reference: worth of a set =====
theorem f219_lp {K n D set : Nat} {g0 : zS} (hK : 20 ≤ K) (I : zInv n g0) (hD6 : D ≤ 6) (hD : g0 222 21 = nI D) (hs : set < 2 ^ 31) (hd : ∀ e, e < D → zdM g0 e ≤ 8 ∧ g0 (195 + 3 * e) 1 = nI (zdM g0 e) ∧ g0 234 e = nI (zdM g0 e) ∧ zWds g0 (zdM g0 e) (zdU g0 e) ∧ (∀ i, i < zdM g0 e → zdU g0 e i = g0 233 (8 * e + i))) : ∀ d i k (g : zS), i + d = D → d < k → zScr g0 g → ∃ g', f219_4 K k (nI set) (zss (zdW g0) set i) (nI i) g = some (zss (zdW g0) set D, g') ∧ zScr g0 g' := by
  intro d
  induction d with
  | zero =>
    intro i k g h1 h2 s
    obtain ⟨k, rfl⟩ : ∃ q, k = q + 1 := ⟨k - 1, by omega⟩
    refine ⟨g, ?_, s⟩
    rw [f219_4, zScr_222 s (by omega), hD, if_pos (nI_le (by omega) (by omega)), show i = D by omega]
  | succ d ih =>
    intro i k g h1 h2 s
    obtain ⟨k, rfl⟩ : ∃ q, k = q + 1 := ⟨k - 1, by omega⟩
    obtain ⟨m8, m1, m2, Wd, m3⟩ := hd i (by omega)
    obtain ⟨g1, u1, u2, u3, -⟩ := f217_sp hK s (show i < 6 by omega) m8 m2 m3
    obtain ⟨g', e1, e2⟩ := ih (i + 1) k g1 (by omega) (by omega) u2
    refine ⟨g', ?_, e2⟩
    rw [zss_s] at e1
    rw [f219_4, zScr_222 s (by omega), hD, if_neg (nI_ge (by omega) (by omega)), u1, zbd_s, f177_eq hs (by omega), zbd_s]
    unfold f219_34
    rw [nI_1]
    cases hb : set.testBit i with
    | false =>
      rw [hb, if_neg (by decide)] at e1
      rw [if_pos (by decide)]
      exact e1
    | true =>
      rw [hb, if_pos rfl] at e1
      rw [if_neg (by decide), f190_sp hK I.2.1 u2 u3 Wd, zbd_s]
      exact e1
theorem f219_sp {K n D set : Nat} {g0 g : zS} (hK : 20 ≤ K) (I : zInv n g0) (hD6 : D ≤ 6) (hD : g0 222 21 = nI D) (hs : set < 2 ^ 31) (hd : ∀ e, e < D → zdM g0 e ≤ 8 ∧ g0 (195 + 3 * e) 1 = nI (zdM g0 e) ∧ g0 234 e = nI (zdM g0 e) ∧ zWds g0 (zdM g0 e) (zdU g0 e) ∧ (∀ i, i < zdM g0 e → zdU g0 e i = g0 233 (8 * e + i))) (s : zScr g0 g) : ∃ g', f219 K (nI set) g = some (zss (zdW g0) set D, g') ∧ zScr g0 g' := f219_lp hK I hD6 hD hs hd D 0 K g (by omega) (by omega) s
