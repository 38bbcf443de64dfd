-- ===== holes, what is good, worth =====
theorem zdec {b : Bool} {P : Prop} [Decidable P] (h : b = true ↔ P) : b = decide P := by
  by_cases hp : P
  · rw [decide_eq_true hp]; exact h.mpr hp
  · rw [decide_eq_false hp]
    cases b
    · rfl
    · exact absurd (h.mp rfl) hp
theorem zli {n : Nat} {g0 : zS} (I : zInv n g0) : ∃ m, m ≤ 8 ∧ g0 180 1 = nI m ∧ g0 222 18 = nI m ∧ zWds g0 m (g0 182) ∧ ∀ i, i < m → g0 182 i = g0 232 i := by
  obtain ⟨m, t1, t2, t3, t4⟩ := I.2.2.2.2.1
  exact ⟨m, t1, t2, t3, fun i hi => (t4 i hi).2, fun i hi => (t4 i hi).1⟩
theorem zLn_180 {m : Nat} {g0 g : zS} (s : zScr g0 g) (hm : m ≤ 8) (h : g0 180 1 = nI m) : zLn 180 m (g0 182) g := ⟨by decide +kernel, hm, by rw [zScr_c s (by omega)]; exact h, fun i _ => by rw [zScr_c s (by omega)]⟩
theorem f173_lp {K m : Nat} {g0 : zS} (hm : m ≤ 8) (h1 : g0 222 18 = nI m) (h2 : ∀ i, i < m → g0 182 i = g0 232 i) : ∀ d i n (g : zS), i + d = m → d < n → zScr g0 g → ∃ g', f173_2 K n (nI i) g = some ((), g') ∧ zScr g0 g' ∧ (∀ c, c ≠ 235 → c ≠ 222 → g' c = g c) ∧ (∀ k, k ≠ 29 → g' 222 k = g 222 k) ∧ g' 222 29 = nI m ∧ ∀ j, j < m → g' 235 j = if i ≤ j then g0 182 j else g 235 j := by
  intro d
  induction d with
  | zero =>
    intro i n g h3 h4 s
    obtain ⟨n, rfl⟩ : ∃ q, n = q + 1 := ⟨n - 1, by omega⟩
    refine ⟨zup g 222 29 (nI m), ?_, zScr_up s (by unfold zKeep; omega), fun c q1 q2 => zup_c q2, fun k hk => zup_k hk, zup_s _ _ _ _, fun j hj => by rw [if_neg (by omega), zup_c (by decide)]⟩
    rw [f173_2, zScr_222 s (by omega), h1, if_pos (nI_le (by omega) (by omega))]
  | succ d ih =>
    intro i n g h3 h4 s
    obtain ⟨n, rfl⟩ : ∃ q, n = q + 1 := ⟨n - 1, by omega⟩
    obtain ⟨g', e1, e2, e3, e4, e5, e6⟩ := ih (i + 1) n (zup g 235 i (g0 182 i)) (by omega) (by omega) (zScr_up s (by unfold zKeep; omega))
    refine ⟨g', ?_, e2, fun c q1 q2 => by rw [e3 c q1 q2, zup_c q1], fun k hk => by rw [e4 k hk, zup_c (by decide)], e5, fun j hj => ?_⟩
    · rw [f173_2, zScr_222 s (by omega), h1, if_neg (nI_ge (by omega) (by omega)), if_pos (zin_i (by omega) (by decide)), if_pos (zin_i (by omega) (by decide)), nI_clamp (by omega), zScr_c s (c := 232) (by omega), ← h2 i (by omega), nI_1, e1]
    · rw [e6 j hj, zup_e]
      by_cases q : j = i
      · rw [if_neg (by omega), if_pos q, if_pos (by omega), q]
      · rw [if_neg q]
        by_cases q2 : i + 1 ≤ j
        · rw [if_pos q2, if_pos (by omega)]
        · rw [if_neg q2, if_neg (by omega)]
/-- layLine -/
theorem f173_sp {K m : Nat} {g0 g : zS} (hK : 20 ≤ K) (s : zScr g0 g) (hm : m ≤ 8) (h1 : g0 222 18 = nI m) (h2 : ∀ i, i < m → g0 182 i = g0 232 i) : ∃ g', f173 K g = some ((), g') ∧ zScr g0 g' ∧ zTr m (g0 182) g' ∧ (∀ c, c ≠ 235 → c ≠ 222 → g' c = g c) ∧ ∀ k, k ≠ 29 → g' 222 k = g 222 k := by
  obtain ⟨g', e1, e2, e3, e4, e5, e6⟩ := f173_lp (K := K) hm h1 h2 m 0 K g (by omega) (by omega) s
  exact ⟨g', e1, e2, ⟨hm, e5, fun j hj => by rw [e6 j hj, if_pos (by omega)]⟩, e3, e4⟩
theorem f186_lp {K m : Nat} {U : Nat → Int32} {g : zS} (T : zTr m U g) : ∀ d i n, i + d = m → d < n → f186_4 K n (nI (zah U (-1) i).toNat) (nI i) g = some (nI (zah U (-1) m).toNat, g) := by
  obtain ⟨hm, h1, h2⟩ := T
  intro d
  induction d with
  | zero =>
    intro i n h3 h4
    obtain ⟨n, rfl⟩ : ∃ q, n = q + 1 := ⟨n - 1, by omega⟩
    rw [f186_4, h1, if_pos (nI_le (by omega) (by omega)), show i = m by omega]
    cases zah U (-1) m
    · rw [if_pos (by decide)]
    · rw [if_pos (by decide)]
  | succ d ih =>
    intro i n h3 h4
    obtain ⟨n, rfl⟩ : ∃ q, n = q + 1 := ⟨n - 1, by omega⟩
    have := ih (i + 1) n (by omega) (by omega)
    rw [zah_s] at this
    rw [f186_4, h1, if_neg (nI_ge (by omega) (by omega))]
    unfold f186_26 f186_31
    rw [nI_1]
    cases hz : zah U (-1) i with
    | true =>
      rw [hz, Bool.true_or] at this
      rw [if_pos (by decide)]
      exact this
    | false =>
      rw [hz, Bool.false_or] at this
      rw [if_neg (by decide), if_pos (zin_i (by omega) (by decide)), nI_clamp (by omega), h2 i (by omega)]
      by_cases q : U i = -1
      · rw [if_neg (fun z => z q)]
        rw [decide_eq_true q] at this
        exact this
      · rw [if_pos q]
        rw [decide_eq_false q] at this
        exact this
theorem f186_eq {K m : Nat} {U : Nat → Int32} {g : zS} (hK : 20 ≤ K) (T : zTr m U g) : f186 K g = some (nI (zah U (-1) m).toNat, g) := by
  have := T.1
  exact f186_lp T m 0 K (by omega) (by omega)
theorem zah_f {U : Nat → Int32} {u : Int32} : ∀ {m : Nat}, zah U u m = false ↔ ∀ i, i < m → ¬ U i = u := by
  intro m
  induction m with
  | zero => exact ⟨fun _ i hi => by omega, fun _ => rfl⟩
  | succ m ih =>
    unfold zah
    rw [Bool.or_eq_false_iff, ih, decide_eq_false_iff_not]
    refine ⟨fun q i hi => ?_, fun q => ⟨fun i hi => q i (by omega), q m (by omega)⟩⟩
    by_cases h : i = m
    · rw [h]; exact q.2
    · exact q.1 i (by omega)
/-- how many holes -/
def zhc (U : Nat → Int32) : Nat → Nat
  | 0 => 0
  | i + 1 => zhc U i + (if U i = -1 then 1 else 0)
theorem zhc_s {U : Nat → Int32} {i : Nat} : zhc U (i + 1) = zhc U i + (if U i = -1 then 1 else 0) := rfl
theorem zhc_le {U : Nat → Int32} : ∀ {m : Nat}, zhc U m ≤ m := by
  intro m
  induction m with
  | zero => exact Nat.le_refl _
  | succ m ih =>
    unfold zhc
    by_cases h : U m = -1
    · rw [if_pos h]; omega
    · rw [if_neg h]; omega
theorem zhc_0 {U : Nat → Int32} : ∀ {m : Nat}, zhc U m = 0 ↔ ∀ i, i < m → ¬ U i = -1 := by
  intro m
  induction m with
  | zero => exact ⟨fun _ i hi => by omega, fun _ => rfl⟩
  | succ m ih =>
    unfold zhc
    by_cases h : U m = -1
    · rw [if_pos h]
      exact ⟨fun q => by omega, fun q => absurd h (q m (by omega))⟩
    · rw [if_neg h, Nat.add_zero, ih]
      refine ⟨fun q i hi => ?_, fun q i hi => q i (by omega)⟩
      by_cases h2 : i = m
      · rw [h2]; exact h
      · exact q i (by omega)
theorem f77_lp {K o m : Nat} {U : Nat → Int32} {g : zS} (L : zLn o m U g) : ∀ d i n, i + d = m → d < n → f77_4 K n o (nI (zhc U i)) (nI i) g = some (nI (zhc U m), g) := by
  obtain ⟨hz, hm, h1, h2⟩ := L
  intro d
  induction d with
  | zero =>
    intro i n h3 h4
    obtain ⟨n, rfl⟩ : ∃ q, n = q + 1 := ⟨n - 1, by omega⟩
    rw [f77_4, h1, if_pos (nI_le (by omega) (by omega)), show i = m by omega]
  | succ d ih =>
    intro i n h3 h4
    obtain ⟨n, rfl⟩ : ∃ q, n = q + 1 := ⟨n - 1, by omega⟩
    have := ih (i + 1) n (by omega) (by omega)
    rw [zhc_s] at this
    rw [f77_4, h1, if_neg (nI_ge (by omega) (by omega)), f21_eq (by rw [hz]; omega) (by rw [hz]; decide), zbd_s]
    unfold f77_30
    rw [show g (o + 1 + 1) i = U i from h2 i (by omega), nI_1, show (0 : Int32) = nI 0 from rfl, nI_add]
    by_cases q : U i = -1
    · rw [if_neg (fun z => z q)]
      rw [if_pos q] at this
      rw [nI_1]
      exact this
    · rw [if_pos q]
      rw [if_neg q] at this
      exact this
theorem f77_eq {K o m : Nat} {U : Nat → Int32} {g : zS} (hK : 20 ≤ K) (L : zLn o m U g) : f77 K o g = some (nI (zhc U m), g) := by
  have := L.2.1
  exact f77_lp L m 0 K (by omega) (by omega)
/-- a line that can be said -/
theorem f76_eq {K o m : Nat} {U : Nat → Int32} {g : zS} (hK : 20 ≤ K) (L : zLn o m U g) : f76 K o g = some (if 0 < m ∧ zhc U m = 0 then 1 else 0, g) := by
  have hm := L.2.1
  unfold f76
  rw [L.2.2.1]
  by_cases h : 0 < m
  · rw [if_neg (nI_nle h (by omega)), f77_eq hK L, zbd_s]
    by_cases h2 : zhc U m = 0
    · rw [h2, if_neg (fun z => z rfl), if_pos ⟨h, rfl⟩]
    · have := @zhc_le U m
      rw [if_pos (nI_ne0 (by omega) (by omega)), if_neg (fun z => h2 z.2)]
  · rw [if_pos (by rw [show m = 0 by omega]; decide), if_neg (fun z => h z.1)]
abbrev zGd (Q : Nat → Int32) (m : Nat) : Prop := 0 < m ∧ (∀ i, i < m → ¬ Q i = -1) ∧ ¬ zaj (Q (m - 1)) ∧ ∀ i, i < m → 0 < i → ¬ (Q i = 0 ∧ Q (i - 1) = 0)
theorem f74_lp {K o m : Nat} {U Q : Nat → Int32} {g : zS} (L : zLn o m U g) (hQ : ∀ i, i < 100 → f61 K o (nI i) g = some (Q i, g)) : ∀ d i n, i + d = m → d < n → ∃ b : Bool, f74_4 K n o (if i = 0 then -1 else Q (i - 1)) (nI i) g = some (nI b.toNat, g) ∧ (b = true ↔ 0 < m ∧ (∀ j, i ≤ j → j < m → ¬ Q j = -1) ∧ ¬ zaj (Q (m - 1)) ∧ ∀ j, i ≤ j → j < m → 0 < j → ¬ (Q j = 0 ∧ Q (j - 1) = 0)) := by
  have hm := L.2.1
  have h1 := L.2.2.1
  intro d
  induction d with
  | zero =>
    intro i n h3 h4
    obtain ⟨n, rfl⟩ : ∃ q, n = q + 1 := ⟨n - 1, by omega⟩
    have him : i = m := by omega
    rw [f74_4, h1, if_pos (nI_le (by omega) (by omega))]
    by_cases h0 : m = 0
    · refine ⟨false, ?_, ⟨fun z => (by cases z), fun z => by omega⟩⟩
      rw [if_pos (by rw [h0]; decide)]
      rfl
    · rw [if_neg (nI_nle (by omega) (by omega)), if_neg (show ¬ i = 0 by omega), f63_eq, zbd_s, him]
      by_cases ha : zaj (Q (m - 1))
      · refine ⟨false, ?_, ⟨fun z => (by cases z), fun z => absurd ha z.2.2.1⟩⟩
        rw [if_pos ha, if_pos (by decide)]
        rfl
      · refine ⟨true, ?_, ⟨fun _ => ⟨by omega, fun j q1 q2 => by omega, ha, fun j q1 q2 => by omega⟩, fun _ => rfl⟩⟩
        rw [if_neg ha, if_neg (fun z => z rfl)]
        rfl
  | succ d ih =>
    intro i n h3 h4
    obtain ⟨n, rfl⟩ : ∃ q, n = q + 1 := ⟨n - 1, by omega⟩
    obtain ⟨b, e1, e2⟩ := ih (i + 1) n (by omega) (by omega)
    rw [if_neg (show ¬ i + 1 = 0 by omega), show i + 1 - 1 = i by omega] at e1
    rw [f74_4, h1, if_neg (nI_ge (by omega) (by omega)), hQ i (by omega), zbd_s]
    unfold f74_37
    rw [nI_1]
    by_cases hn : Q i = -1
    · refine ⟨false, ?_, ⟨fun z => (by cases z), fun z => absurd hn (z.2.1 i (by omega) (by omega))⟩⟩
      rw [if_pos hn]
      rfl
    · rw [if_neg hn]
      by_cases hb : Q i = 0 ∧ (if i = 0 then (-1 : Int32) else Q (i - 1)) = 0
      · have hi0 : ¬ i = 0 := fun z => by have := hb.2; rw [if_pos z] at this; exact absurd this (by decide)
        refine ⟨false, ?_, ⟨fun z => (by cases z), fun z => ?_⟩⟩
        · rw [if_neg (fun z => z hb.1), if_neg (fun z => z hb.2)]
          rfl
        · have := hb.2
          rw [if_neg hi0] at this
          exact absurd ⟨hb.1, this⟩ (z.2.2.2 i (by omega) (by omega) (by omega))
      · refine ⟨b, ?_, ?_⟩
        · by_cases h0 : Q i = 0
          · rw [if_neg (fun z => z h0), if_pos (fun z => hb ⟨h0, z⟩)]
            exact e1
          · rw [if_pos h0]
            exact e1
        · rw [e2]
          refine ⟨fun z => ⟨z.1, fun j q1 q2 => ?_, z.2.2.1, fun j q1 q2 q3 => ?_⟩, fun z => ⟨z.1, fun j q1 q2 => z.2.1 j (by omega) q2, z.2.2.1, fun j q1 q2 q3 => z.2.2.2 j (by omega) q2 q3⟩⟩
          · by_cases q : j = i
            · rw [q]; exact hn
            · exact z.2.1 j (by omega) q2
          · by_cases q : j = i
            · rw [q]
              rw [if_neg (by omega)] at hb
              exact hb
            · exact z.2.2.2 j (by omega) q2 q3
theorem f74_eq {K o m : Nat} {U : Nat → Int32} {g0 g : zS} {x : Int32} (hK : 20 ≤ K) (L : zLn o m U g) (Wd : zWds g0 m U) (k : zKin g0 x g) : f74 K o g = some (nI (decide (zGd (zQ g0 x m U) m)).toNat, g) := by
  have hm := L.2.1
  obtain ⟨b, e1, e2⟩ := f74_lp (K := K) L (fun i hi => f61_eq L Wd k hi) m 0 K (by omega) (by omega)
  have hb : b = decide (zGd (zQ g0 x m U) m) := zdec (e2.trans ⟨fun z => ⟨z.1, fun j q => z.2.1 j (by omega) q, z.2.2.1, fun j q q2 => z.2.2.2 j (by omega) q q2⟩, fun z => ⟨z.1, fun j _ q => z.2.1 j q, z.2.2.1, fun j _ q q2 => z.2.2.2 j q q2⟩⟩)
  rw [← hb]
  exact e1
theorem f185_lp {K m : Nat} {Q : Nat → Int32} {g : zS} (hm : m ≤ 8) (h1 : g 222 29 = nI m) (hQ : ∀ i, i < m → g 236 i = Q i) : ∀ d i n, i + d = m → 0 < i → d + 1 < n → ∃ b : Bool, f185_45 K n 1 (nI i) g = some (nI b.toNat, g) ∧ (b = true ↔ ∀ j, i ≤ j → j < m → ¬ (Q j = 0 ∧ Q (j - 1) = 0)) := by
  intro d
  induction d with
  | zero =>
    intro i n h3 h4 h5
    obtain ⟨n, rfl⟩ : ∃ q, n = q + 1 := ⟨n - 1, by omega⟩
    refine ⟨true, ?_, ⟨fun _ j q1 q2 => by omega, fun _ => rfl⟩⟩
    rw [f185_45, h1, if_neg (by decide), if_pos (nI_le (by omega) (by omega)), if_pos (Or.inr rfl)]
    rfl
  | succ d ih =>
    intro i n h3 h4 h5
    obtain ⟨n, rfl⟩ : ∃ q, n = q + 1 := ⟨n - 1, by omega⟩
    obtain ⟨b, e1, e2⟩ := ih (i + 1) n (by omega) (by omega) (by omega)
    rw [f185_45, h1, if_neg (by decide), if_neg (nI_ge (by omega) (by omega)), if_pos (zin_i (by omega) (by decide)), nI_clamp (by omega), nI_lit1, pk_sub (by omega), if_pos (zin_i (by omega) (by decide)), nI_clamp (by omega), hQ i (by omega), hQ (i - 1) (by omega)]
    unfold f185_77 f185_82
    rw [nI_1]
    by_cases hb : Q i = 0 ∧ Q (i - 1) = 0
    · refine ⟨false, ?_, ⟨fun z => (by cases z), fun z => absurd hb (z i (by omega) (by omega))⟩⟩
      obtain ⟨n, rfl⟩ : ∃ q, n = q + 1 := ⟨n - 1, by omega⟩
      rw [if_neg (fun z => z hb.1), if_pos hb.2, f185_45, if_pos rfl, if_pos (Or.inl rfl)]
      rfl
    · refine ⟨b, ?_, ?_⟩
      · by_cases h0 : Q i = 0
        · rw [if_neg (fun z => z h0), if_neg (fun z => hb ⟨h0, z⟩)]
          exact e1
        · rw [if_pos h0]
          exact e1
      · rw [e2]
        refine ⟨fun z j q1 q2 => ?_, fun z j q1 q2 => z j (by omega) q2⟩
        by_cases q : j = i
        · rw [q]; exact hb
        · exact z j (by omega) q2
theorem zQ_iff {m : Nat} {U : Nat → Int32} {g0 : zS} {x : Int32} (I : zIto g0) (Wd : zWds g0 m U) : ∀ i, i < m → (zQ g0 x m U i = -1 ↔ U i = -1) := by
  intro i hi
  obtain ⟨w, p, c, r, l, b0, ⟨b1, -⟩, -⟩ := id I
  refine ⟨fun z => ?_, zQ_m1 i hi⟩
  rcases Wd i hi with h | ⟨v, v1, v2, v3⟩
  · exact h
  · have hn : ¬ U i = -1 := by rw [v2]; exact nI_nm1 (by omega)
    rw [b1] at v3
    obtain ⟨k, k1, k2⟩ := zkd_rg (x := x) I b1 (by omega) ((nI_ltI (by omega) (by omega)).mp v3)
    unfold zQ at z
    rw [if_pos hi, if_neg hn, v2, nI_clamp (by omega), k2] at z
    exact absurd z (nI_nm1 (by omega))
/-- isGood of the reference -/
theorem f185_sp {K n m : Nat} {U : Nat → Int32} {g0 g : zS} (hK : 20 ≤ K) (I : zInv n g0) (s : zScr g0 g) (Wd : zWds g0 m U) (T : zTr m U g) : ∃ g', f185 K g = some (nI (decide (zGd (zQ g0 (g0 34 0) m U) m)).toNat, g') ∧ zScr g0 g' ∧ ∀ c, c ≠ 236 → g' c = g c := by
  obtain ⟨g', e1, e2, e3, e4⟩ := f175_sp (x := g0 34 0) hK I.2.1 s Wd T
  refine ⟨g', ?_, e2, e3⟩
  have hm := T.1
  have T' : zTr m U g' := ⟨hm, by rw [e3 222 (by decide)]; exact T.2.1, fun j hj => by rw [e3 235 (by decide)]; exact T.2.2 j hj⟩
  have hw : g 223 (0 : Int32).toNatClampNeg = g0 34 0 := by
    rw [zScr_c s (by omega)]
    exact I.2.2.1.2.1.symm
  obtain ⟨K, rfl⟩ : ∃ q, K = q + 1 := ⟨K - 1, by omega⟩
  have bad : ¬ zGd (zQ g0 (g0 34 0) m U) m → f185_41 (K + 1) g' = some (nI (decide (zGd (zQ g0 (g0 34 0) m U) m)).toNat, g') := by
    intro q
    unfold f185_41 f185_42
    rw [f185_45, if_pos rfl, if_pos (Or.inl rfl), decide_eq_false q]
    rfl
  unfold f185
  rw [if_pos (by decide), hw, e1, zbd_s, T'.2.1]
  by_cases h0 : 0 < m
  · rw [if_neg (nI_nle h0 (by omega)), f186_eq hK T', zbd_s]
    cases hz : zah U (-1) m with
    | true =>
      rw [if_pos (by decide)]
      refine bad fun q => ?_
      have : ¬ zah U (-1) m = false := by rw [hz]; decide
      exact this (zah_f.mpr fun i hi z => q.2.1 i hi (zQ_m1 i hi z))
    | false =>
      rw [if_neg (show ¬ ¬ nI false.toNat = 0 by decide), T'.2.1, show nI m - 1 = nI (m - 1) from pk_sub (a := m) (b := 1) (by omega), f178_eq (by omega), zbd_s, e4 (m - 1) (by omega)]
      by_cases ha : zaj (zQ g0 (g0 34 0) m U (m - 1))
      · rw [if_pos ha, if_pos (show ¬ (1 : Int32) = 0 by decide)]
        exact bad fun q => q.2.2.1 ha
      · rw [if_neg ha, if_neg (show ¬ ¬ (0 : Int32) = 0 from fun z => z rfl)]
        obtain ⟨b, q1, q2⟩ := f185_lp (K := K + 1) (g := g') hm T'.2.1 e4 (m - 1) 1 (K + 1) (by omega) (by omega) (by omega)
        unfold f185_42
        have hb : b = decide (zGd (zQ g0 (g0 34 0) m U) m) := zdec (q2.trans ⟨fun z => ⟨h0, fun i hi y => zah_f.mp hz i hi ((zQ_iff I.2.1 Wd i hi).mp y), ha, fun j z1 z2 => z j (by omega) z1⟩, fun z j z1 z2 => z.2.2.2 j z2 (by omega)⟩)
        rw [← hb]
        exact q1
  · rw [if_pos (by rw [show m = 0 by omega]; decide)]
    exact bad fun q => h0 q.1
