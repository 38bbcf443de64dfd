-- ===== the reference: what is tried, its kinds, what it costs =====
def zTr (m : Nat) (U : Nat → Int32) (g : zS) : Prop := m ≤ 8 ∧ g 222 29 = nI m ∧ ∀ i, i < m → g 235 i = U i
theorem zwi_13 {q : Int32} : zwi q 1 3 = if zaj q then 1 else 0 := by
  by_cases h : zwi q 1 3 = 0
  · rw [h, if_neg]
    intro z
    rcases z with rfl | rfl | rfl <;> exact absurd h (by decide)
  · obtain ⟨j, j1, j2, rfl⟩ := zwi_ab (a := 1) (b := 3) (by decide) (by decide) h
    have : j = 1 ∨ j = 2 ∨ j = 3 := by omega
    rcases this with rfl | rfl | rfl <;> decide
theorem f178_eq {K i : Nat} {g : zS} (hi : i < 8) : f178 K (nI i) g = some (if zaj (g 236 i) then 1 else 0, g) := by
  unfold f178
  rw [if_pos (zin_i hi (by decide)), nI_clamp (by omega), i64_1, i64_3, f146_eq, zbd_s, if_pos (zwi_01 _ _ _), zwi_13]
theorem zah_s {U : Nat → Int32} {u : Int32} {i : Nat} : zah U u (i + 1) = (zah U u i || decide (U i = u)) := rfl
theorem zite3 {A N N' T : Prop} [Decidable (A ∨ N ∨ T)] [Decidable (A ∨ N' ∨ T)] {x y : Nat} (h : N ↔ N') : (if A ∨ N ∨ T then x else y) = if A ∨ N' ∨ T then x else y := by
  by_cases q : A ∨ N ∨ T
  · rw [if_pos q, if_pos (q.imp id (Or.imp h.mp id))]
  · rw [if_neg q, if_neg (fun z => q (z.imp id (Or.imp h.mpr id)))]
theorem f177_0 {K a : Nat} {g : zS} (ha : a < 2 ^ 31) : f177 K (nI a) 0 g = some (nI (a.testBit 0).toNat, g) := f177_eq (w := 0) ha (by omega)
theorem f177_1 {K a : Nat} {g : zS} (ha : a < 2 ^ 31) : f177 K (nI a) 1 g = some (nI (a.testBit 1).toNat, g) := f177_eq (w := 1) ha (by omega)
theorem f177_2 {K a : Nat} {g : zS} (ha : a < 2 ^ 31) : f177 K (nI a) 2 g = some (nI (a.testBit 2).toNat, g) := f177_eq (w := 2) ha (by omega)
theorem f179_lp {K i : Nat} {U : Nat → Int32} {g : zS} (hi : i < 8) (hU : ∀ j, j ≤ i → g 235 j = U j) : ∀ d j n, j + d = i → d < n → f179_4 K n (nI i) (nI (zah U (U i) j).toNat) (nI j) g = some (nI (zah U (U i) i).toNat, g) := by
  intro d
  induction d with
  | zero =>
    intro j n h1 h2
    obtain ⟨n, rfl⟩ : ∃ q, n = q + 1 := ⟨n - 1, by omega⟩
    rw [f179_4, if_pos (nI_le (by omega) (by omega)), show j = i by omega]
    cases zah U (U i) i
    · rw [if_pos (by decide)]
    · rw [if_pos (by decide)]
  | succ d ih =>
    intro j n h1 h2
    obtain ⟨n, rfl⟩ : ∃ q, n = q + 1 := ⟨n - 1, by omega⟩
    have := ih (j + 1) n (by omega) (by omega)
    rw [f179_4, if_neg (nI_ge (by omega) (by omega))]
    unfold f179_28 f179_33
    rw [zah_s] at this
    rw [nI_1]
    cases hz : zah U (U i) j with
    | true =>
      rw [hz, Bool.true_or] at this
      rw [if_pos (by decide)]
      exact this
    | false =>
      rw [hz, Bool.false_or] at this
      rw [if_neg (by decide), if_pos (zin_i (by omega) (by decide)), if_pos (zin_i hi (by decide)), nI_clamp (by omega), nI_clamp (by omega), hU j (by omega), hU i (by omega)]
      by_cases q : U j = U i
      · rw [if_neg (fun z => z q)]
        rw [decide_eq_true q] at this
        exact this
      · rw [if_pos q]
        rw [decide_eq_false q] at this
        exact this
theorem f179_eq {K i : Nat} {U : Nat → Int32} {g : zS} (hK : 10 ≤ K) (hi : i < 8) (hU : ∀ j, j ≤ i → g 235 j = U j) : f179 K (nI i) g = some (nI (zah U (U i) i).toNat, g) := f179_lp (K := K) hi hU i 0 K (by omega) (by omega)
theorem tb0 (l : Nat) : l.testBit 0 = decide (l % 2 = 1) := by rw [Nat.testBit_eq_decide_div_mod_eq, Nat.pow_zero, Nat.div_one]
theorem tb1 (l : Nat) : l.testBit 1 = decide (l / 2 % 2 = 1) := by rw [Nat.testBit_eq_decide_div_mod_eq, Nat.pow_one]
theorem tb2 (l : Nat) : l.testBit 2 = decide (l / 4 % 2 = 1) := by rw [Nat.testBit_eq_decide_div_mod_eq]
theorem f176_eq {K i m l : Nat} {U Q : Nat → Int32} {g : zS} (hK : 10 ≤ K) (T : zTr m U g) (hl : l < 8) (h16 : g 222 16 = nI l) (hQ : ∀ j, j < m → g 236 j = Q j) (hQm : Q m = -1) (hi : i < m) : f176 K (nI i) g = some (nI (zpc l Q U i), g) := by
  obtain ⟨hm, h29, hU⟩ := T
  have h129 : ∀ (c : Bool) (v : Nat), f176_129 K (nI c.toNat) (nI v) g = some (nI (v + c.toNat), g) := by
    intro c v
    unfold f176_129
    cases c
    · rw [if_pos (by decide), show (0 : Int32) = nI 0 from rfl, nI_add]; rfl
    · rw [if_neg (by decide), nI_1]; rfl
  have h113 : ∀ c : Bool, f176_113 K (nI i) (nI c.toNat) g = some (nI ((if Q i = 3 then 1 else 2) + c.toNat), g) := by
    intro c
    unfold f176_113
    rw [if_pos (zin_i (by omega) (by decide)), nI_clamp (by omega), hQ i hi, show (2 : Int32) = nI 2 from rfl, nI_lit1, h129, h129]
    by_cases q : Q i = 3
    · rw [if_neg (fun z => z q), if_pos q]
    · rw [if_pos q, if_neg q]
  have h112 : f176_112 K (nI i) g = some (nI ((if Q i = 3 then 1 else 2) + 0), g) := h113 false
  have h72 : f176_72 K (nI i) g = some (nI ((if Q i = 3 then 1 else 2) + (if l / 4 % 2 = 1 ∧ 2 ≤ i ∧ zaj (Q (i - 1)) ∧ zaj (Q (i - 2)) then 1 else 0)), g) := by
    unfold f176_72
    rw [h16, f177_2 (by omega), zbd_s, tb2, h112]
    by_cases q4 : l / 4 % 2 = 1
    · rw [decide_eq_true q4, if_neg (show ¬ nI true.toNat = 0 by decide)]
      by_cases qi : i ≤ 1
      · rw [if_pos (show nI i ≤ 1 from nI_le (b := 1) qi (by omega)), if_neg (show ¬ (l / 4 % 2 = 1 ∧ 2 ≤ i ∧ zaj (Q (i - 1)) ∧ zaj (Q (i - 2))) from fun z => by have := z.2.1; omega)]
      · rw [if_neg (show ¬ nI i ≤ 1 from nI_ge (a := 1) (by omega) (by omega)), show nI i - 1 = nI (i - 1) from pk_sub (a := i) (b := 1) (by omega), show nI i - 2 = nI (i - 2) from pk_sub (a := i) (b := 2) (by omega), f178_eq (by omega), zbd_s, hQ (i - 1) (by omega)]
        by_cases q1 : zaj (Q (i - 1))
        · rw [if_pos q1, if_neg (show ¬ (1 : Int32) = 0 by decide), f178_eq (by omega), zbd_s, hQ (i - 2) (by omega)]
          by_cases q2 : zaj (Q (i - 2))
          · rw [if_pos q2, if_neg (show ¬ (1 : Int32) = 0 by decide), if_pos (show l / 4 % 2 = 1 ∧ 2 ≤ i ∧ zaj (Q (i - 1)) ∧ zaj (Q (i - 2)) from ⟨q4, by omega, q1, q2⟩)]
            exact h113 true
          · rw [if_neg q2, if_pos (show (0 : Int32) = 0 from rfl), if_neg (show ¬ (l / 4 % 2 = 1 ∧ 2 ≤ i ∧ zaj (Q (i - 1)) ∧ zaj (Q (i - 2))) from fun z => q2 z.2.2.2)]
            exact h112
        · rw [if_neg q1, if_pos (show (0 : Int32) = 0 from rfl), if_neg (show ¬ (l / 4 % 2 = 1 ∧ 2 ≤ i ∧ zaj (Q (i - 1)) ∧ zaj (Q (i - 2))) from fun z => q1 z.2.2.1)]
          exact h112
    · rw [decide_eq_false q4, if_pos (show nI false.toNat = 0 by decide), if_neg (show ¬ (l / 4 % 2 = 1 ∧ 2 ≤ i ∧ zaj (Q (i - 1)) ∧ zaj (Q (i - 2))) from fun z => q4 z.1)]
  have h38 : ∀ c : Bool, f176_38 K (nI i) (nI c.toNat) g = some (nI (if ¬ zaj (Q i) ∨ c = true ∨ (l / 2 % 2 = 1 ∧ zah U (U i) i = true) then 0 else (if Q i = 3 then 1 else 2) + (if l / 4 % 2 = 1 ∧ 2 ≤ i ∧ zaj (Q (i - 1)) ∧ zaj (Q (i - 2)) then 1 else 0)), g) := by
    intro c
    unfold f176_38
    rw [f178_eq (by omega), zbd_s, hQ i hi]
    by_cases qa : zaj (Q i)
    · rw [if_pos qa, if_neg (show ¬ (1 : Int32) = 0 by decide)]
      cases c with
      | true =>
        rw [if_pos (show ¬ nI true.toNat = 0 by decide), if_pos (show ¬ zaj (Q i) ∨ true = true ∨ (l / 2 % 2 = 1 ∧ zah U (U i) i = true) from Or.inr (Or.inl rfl))]
        rfl
      | false =>
        rw [if_neg (show ¬ ¬ nI false.toNat = 0 by decide), h16, f177_1 (by omega), zbd_s, tb1, h72]
        by_cases q2 : l / 2 % 2 = 1
        · rw [decide_eq_true q2, if_neg (show ¬ nI true.toNat = 0 by decide), f179_eq hK (by omega) (fun j hj => hU j (by omega)), zbd_s]
          cases hz : zah U (U i) i with
          | true =>
            rw [if_neg (show ¬ nI true.toNat = 0 by decide), if_pos (show ¬ zaj (Q i) ∨ false = true ∨ (l / 2 % 2 = 1 ∧ true = true) from Or.inr (Or.inr ⟨q2, rfl⟩))]
            rfl
          | false =>
            rw [if_pos (show nI false.toNat = 0 by decide), if_neg (show ¬ (¬ zaj (Q i) ∨ false = true ∨ (l / 2 % 2 = 1 ∧ false = true)) from fun z => by rcases z with z | z | z; exact z qa; exact absurd z (by decide); exact absurd z.2 (by decide))]
            exact h72
        · rw [decide_eq_false q2, if_pos (show nI false.toNat = 0 by decide), if_neg (show ¬ (¬ zaj (Q i) ∨ false = true ∨ (l / 2 % 2 = 1 ∧ zah U (U i) i = true)) from fun z => by rcases z with z | z | z; exact z qa; exact absurd z (by decide); exact q2 z.1)]
    · rw [if_neg qa, if_pos (show (0 : Int32) = 0 from rfl), if_pos (show ¬ zaj (Q i) ∨ c = true ∨ (l / 2 % 2 = 1 ∧ zah U (U i) i = true) from Or.inl qa)]
      rfl
  have h37 : f176_37 K (nI i) g = _ := h38 false
  unfold f176 zpc
  rw [h16, f177_0 (by omega), zbd_s, tb0, h37, h29, nI_1]
  by_cases q0 : l % 2 = 1
  · rw [decide_eq_true q0, if_neg (show ¬ nI true.toNat = 0 by decide)]
    by_cases qm : m ≤ i + 1
    · have e : Q (i + 1) = -1 := by rw [show i + 1 = m by omega]; exact hQm
      rw [if_pos (nI_le qm (by omega))]
      exact congrArg (fun z => some (nI z, g)) (zite3 ⟨fun z => absurd z (by decide), fun z => absurd (e.symm.trans z.2) (by decide)⟩)
    · rw [if_neg (nI_ge (by omega) (by omega)), if_pos (zin_i (show i + 1 < 8 by omega) (by decide)), nI_clamp (show i + 1 < 2 ^ 31 by omega), hQ (i + 1) (by omega)]
      by_cases q4 : Q (i + 1) = 4
      · rw [if_neg (fun z => z q4)]
        have := h38 true
        refine this.trans (congrArg (fun z => some (nI z, g)) (zite3 ⟨fun _ => ⟨q0, q4⟩, fun _ => rfl⟩))
      · rw [if_pos q4]
        exact congrArg (fun z => some (nI z, g)) (zite3 ⟨fun z => absurd z (by decide), fun z => absurd z.2 q4⟩)
  · rw [decide_eq_false q0, if_pos (show nI false.toNat = 0 by decide)]
    exact congrArg (fun z => some (nI z, g)) (zite3 ⟨fun z => absurd z (by decide), fun z => absurd z.1 q0⟩)
theorem f174_83_eq {K : Nat} {k : Int32 → Int32 → Int32 → Int32 → zS → Option (Int32 × zS)} {x1 x3 x5 x6 xs0 : Int32} {f c : Bool} {g : zS} : f174_83 K k x1 x3 (nI f.toNat) x5 x6 (nI c.toNat) xs0 g = k x1 (x3 + (x6 - xs0)) (nI (f && !c).toNat) (x5 + 1) g := by
  unfold f174_83 f174_107 f174_108
  cases f
  · rw [if_pos (by decide)]; rfl
  · rw [if_neg (by decide)]
    cases c
    · rw [if_neg (by decide)]; rfl
    · rw [if_pos (by decide)]; rfl
theorem f174_51_eq {K kk v : Nat} {k : Int32 → Int32 → Int32 → Int32 → zS → Option (Int32 × zS)} {x3 x5 q : Int32} {f c : Bool} {g : zS} (hk : kk ≤ 3) (hc : c = decide (q = 2 ∧ 0 < v)) : f174_51 K k (nI kk) x3 (nI f.toNat) x5 (nI v) (nI c.toNat) g = k (nI kk) (x3 + nI (v - zof (nI kk) q f v)) (nI (f && !decide (q = 2 ∧ 0 < v)).toNat) (x5 + 1) g := by
  have h := @zof_le (nI kk) q f v
  rw [← hc, ← pk_sub h]
  unfold f174_51 f174_63 f174_82 zof
  rw [show (0 : Int32) = nI 0 from rfl, nI_lit1]
  cases c with
  | false =>
    rw [if_pos (by decide), f174_83_eq, if_neg (of_decide_eq_false hc.symm)]
    rfl
  | true =>
    rw [if_neg (by decide), if_pos (of_decide_eq_true hc.symm), show (2 : Int32) = nI 2 from rfl, show (3 : Int32) = nI 3 from rfl]
    by_cases h2 : 2 ≤ kk
    · rw [if_pos (nI_le h2 (by omega))]
      by_cases h3 : kk = 3
      · rw [h3, if_neg (fun z => z rfl), if_pos rfl]
        cases f
        · rw [if_pos (by decide), f174_83_eq, if_neg (by decide)]
          rfl
        · rw [if_neg (by decide), f174_83_eq, if_pos rfl]
          rfl
      · have : ¬ nI kk = nI 3 := fun z => h3 ((nI_eq (by omega) (by omega)).mp z)
        rw [if_pos this, if_neg this, if_pos (by rw [show kk = 2 by omega]), f174_83_eq]
        rfl
    · have n3 : ¬ nI kk = nI 3 := fun z => h2 (by have := (nI_eq (by omega) (by omega)).mp z; omega)
      have n2 : ¬ nI kk = nI 2 := fun z => h2 (by have := (nI_eq (by omega) (by omega)).mp z; omega)
      rw [if_neg (nI_ge (by omega) (by omega)), f174_83_eq, if_neg n3, if_neg n2]
      rfl
theorem f174_lp {K m l kk : Nat} {U Q : Nat → Int32} {g : zS} (hK : 10 ≤ K) (T : zTr m U g) (hl : l < 8) (h16 : g 222 16 = nI l) (hQ : ∀ j, j < m → g 236 j = Q j) (hQm : Q m = -1) (hk : kk ≤ 3) : ∀ d i n s (f : Bool), i + d = m → d < n → f174_13 K n (nI kk) (nI s) (nI f.toNat) (nI i) g = some (nI (zps l (nI kk) Q U d i s f), g) := by
  have hm := T.1
  have h29 := T.2.1
  intro d
  induction d with
  | zero =>
    intro i n s f h1 h2
    obtain ⟨n, rfl⟩ : ∃ q, n = q + 1 := ⟨n - 1, by omega⟩
    rw [f174_13, h29, if_pos (nI_le (by omega) (by omega))]
    rfl
  | succ d ih =>
    intro i n s f h1 h2
    obtain ⟨n, rfl⟩ : ∃ q, n = q + 1 := ⟨n - 1, by omega⟩
    have hle := @zpc_le l Q U i
    rw [f174_13, h29, if_neg (nI_ge (by omega) (by omega)), f176_eq hK T hl h16 hQ hQm (by omega), zbd_s, if_pos (zin_i (by omega) (by decide)), nI_clamp (by omega), hQ i (by omega)]
    unfold zps
    have go : ∀ c : Bool, c = decide (Q i = 2 ∧ 0 < zpc l Q U i) → f174_51 K (f174_13 K n) (nI kk) (nI s) (nI f.toNat) (nI i) (nI (zpc l Q U i)) (nI c.toNat) g = some (nI (zps l (nI kk) Q U d (i + 1) (s + (zpc l Q U i - zof (nI kk) (Q i) f (zpc l Q U i))) (f && !decide (Q i = 2 ∧ 0 < zpc l Q U i))), g) := by
      intro c hc
      rw [f174_51_eq hk hc, nI_add, nI_1]
      exact ih (i + 1) n _ _ (by omega) (by omega)
    by_cases q2 : Q i = 2
    · rw [if_neg (fun z => z q2)]
      by_cases q0 : zpc l Q U i = 0
      · rw [if_pos (by rw [q0]; decide)]
        exact go false (decide_eq_false (by omega)).symm
      · rw [if_neg (nI_nle (by omega) (by omega))]
        exact go true (decide_eq_true ⟨q2, by omega⟩).symm
    · rw [if_pos q2]
      exact go false (decide_eq_false (fun z => q2 z.1)).symm
theorem f175_lp {K m w : Nat} {U : Nat → Int32} {g0 : zS} {x : Int32} (hK : 8 ≤ K) (I : zIto g0) (hw : g0 4 0 = nI w) (hw2 : w ≤ 10) (Wd : zWds g0 m U) : ∀ d i k (g : zS), i + d = m → d < k → zScr g0 g → zTr m U g → ∃ g', f175_2 K k x (nI i) g = some ((), g') ∧ zScr g0 g' ∧ (∀ c, c ≠ 236 → g' c = g c) ∧ ∀ j, j < m → g' 236 j = if i ≤ j then zQ g0 x m U j else g 236 j := by
  intro d
  induction d with
  | zero =>
    intro i k g h1 h2 s T
    obtain ⟨k, rfl⟩ : ∃ q, k = q + 1 := ⟨k - 1, by omega⟩
    have := T.1
    refine ⟨g, ?_, s, fun c _ => rfl, fun j hj => by rw [if_neg (by omega)]⟩
    rw [f175_2, T.2.1, if_pos (nI_le (by omega) (by omega))]
  | succ d ih =>
    intro i k g h1 h2 s T
    obtain ⟨k, rfl⟩ : ∃ q, k = q + 1 := ⟨k - 1, by omega⟩
    have := T.1
    have s2 : zScr g0 (zup g 236 i (zQ g0 x m U i)) := zScr_up s (by unfold zKeep; omega)
    obtain ⟨g', e1, e2, e3, e4⟩ := ih (i + 1) k (zup g 236 i (zQ g0 x m U i)) (by omega) (by omega) s2 ⟨T.1, by rw [zup_c (by decide)]; exact T.2.1, fun j hj => by rw [zup_c (by decide)]; exact T.2.2 j hj⟩
    refine ⟨g', ?_, e2, fun c hc => by rw [e3 c hc, zup_c hc], fun j hj => ?_⟩
    · rw [← e1, f175_2, T.2.1, if_neg (nI_ge (by omega) (by omega)), if_pos (zin_i (by omega) (by decide)), nI_clamp (by omega), T.2.2 i (by omega)]
      unfold f175_40
      rcases Wd i (by omega) with h | ⟨v, v1, v2, v3⟩
      · rw [if_neg (fun z => z h), if_pos (zin_i (by omega) (by decide)), nI_clamp (by omega), nI_1, zQ_m1 i (by omega) h]
      · have hn : ¬ U i = -1 := by rw [v2]; exact nI_nm1 (by omega)
        have e : zQ g0 x m U i = zkd g0 v x := by
          unfold zQ
          rw [if_pos (by omega), if_neg hn, v2, nI_clamp (by omega)]
        rw [hw] at v3
        rw [if_pos hn, v2, f168_k hK I s hw hw2 ((nI_ltI (by omega) (by omega)).mp v3), zbd_s, if_pos (zin_i (by omega) (by decide)), nI_1, e, if_pos (zin_i (by omega) (by decide)), nI_clamp (by omega)]
    · rw [e4 j hj, zup_e]
      by_cases q : j = i
      · rw [if_neg (by omega), if_pos q, if_pos (by omega), q]
      · rw [if_neg q]
        by_cases q2 : i + 1 ≤ j
        · rw [if_pos q2, if_pos (by omega)]
        · rw [if_neg q2, if_neg (by omega)]
theorem f175_sp {K m : Nat} {U : Nat → Int32} {g0 g : zS} {x : Int32} (hK : 20 ≤ K) (I : zIto g0) (s : zScr g0 g) (Wd : zWds g0 m U) (T : zTr m U g) : ∃ g', f175 K x g = some ((), g') ∧ zScr g0 g' ∧ (∀ c, c ≠ 236 → g' c = g c) ∧ ∀ j, j < m → g' 236 j = zQ g0 x m U j := by
  obtain ⟨w, p, c, r, l, b0, ⟨b1, -⟩, -⟩ := id I
  have := T.1
  obtain ⟨g', e1, e2, e3, e4⟩ := f175_lp (K := K) (x := x) (by omega) I b1 (by omega) Wd m 0 K g (by omega) (by omega) s T
  exact ⟨g', e1, e2, e3, fun j hj => by rw [e4 j hj, if_pos (by omega)]⟩
/-- costTo -/
theorem f174_sp {K m kk : Nat} {U : Nat → Int32} {g0 g : zS} {x : Int32} (hK : 20 ≤ K) (I : zIto g0) (s : zScr g0 g) (Wd : zWds g0 m U) (T : zTr m U g) (hk : kk ≤ 3) : ∃ g', f174 K (nI kk) x g = some (nI (zPr g0 (nI kk) x m U), g') ∧ zScr g0 g' ∧ ∀ c, c ≠ 236 → g' c = g c := by
  obtain ⟨w, p, c, r, l, b0, ⟨b1, b2, b3, b4, b5⟩, ⟨c1, c2, c3, c4, c5⟩, -⟩ := id I
  have := T.1
  obtain ⟨g', e1, e2, e3, e4⟩ := f175_sp (x := x) hK I s Wd T
  refine ⟨g', ?_, e2, e3⟩
  unfold f174 zPr
  rw [e1, zbd_s, b5, nI_clamp (by omega)]
  exact f174_lp (by omega) ⟨T.1, by rw [e3 222 (by decide)]; exact T.2.1, fun j hj => by rw [e3 235 (by decide)]; exact T.2.2 j hj⟩ (by omega) (by rw [e3 222 (by decide), zScr_222 s (by omega)]; exact c5) e4 (by unfold zQ; rw [if_neg (by omega)]) hk m 0 K 0 true (by omega) (by omega)
