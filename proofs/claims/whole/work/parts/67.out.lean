-- ===== leftOut =====
/-- what is kept of i places, but for those of set S: how many, which words -/
def zct (S : Nat) : Nat → Nat
  | 0 => 0
  | i + 1 => if S.testBit i = true then zct S i else zct S i + 1
def zkv (U : Nat → Int32) (S : Nat) : Nat → Nat → Int32
  | 0, _ => 0
  | i + 1, x => if S.testBit i = true then zkv U S i x else if x = zct S i then U i else zkv U S i x
def zho (U : Nat → Int32) (S : Nat) : Nat → Bool
  | 0 => true
  | i + 1 => zho U S i && !(S.testBit i && decide (U i = -1))
theorem zct_s {S i : Nat} : zct S (i + 1) = if S.testBit i = true then zct S i else zct S i + 1 := rfl
theorem zkv_s {U : Nat → Int32} {S i x : Nat} : zkv U S (i + 1) x = if S.testBit i = true then zkv U S i x else if x = zct S i then U i else zkv U S i x := rfl
theorem zho_s {U : Nat → Int32} {S i : Nat} : zho U S (i + 1) = (zho U S i && !(S.testBit i && decide (U i = -1))) := rfl
theorem zct_le {S : Nat} : ∀ {i : Nat}, zct S i ≤ i := by
  intro i
  induction i with
  | zero => exact Nat.le_refl _
  | succ i ih =>
    rw [zct_s]
    by_cases h : S.testBit i = true
    · rw [if_pos h]; omega
    · rw [if_neg h]; omega
theorem zkv_in {U : Nat → Int32} {S : Nat} : ∀ {i x : Nat}, x < zct S i → ∃ j, j < i ∧ S.testBit j = false ∧ zkv U S i x = U j := by
  intro i
  induction i with
  | zero => intro x h; exact absurd h (Nat.not_lt_zero _)
  | succ i ih =>
    intro x h
    rw [zct_s] at h
    rw [zkv_s]
    by_cases hb : S.testBit i = true
    · rw [if_pos hb] at h
      rw [if_pos hb]
      obtain ⟨j, j1, j2, j3⟩ := ih h
      exact ⟨j, by omega, j2, j3⟩
    · rw [if_neg hb] at h
      rw [if_neg hb]
      by_cases q : x = zct S i
      · rw [if_pos q]
        exact ⟨i, by omega, by revert hb; cases S.testBit i <;> simp, rfl⟩
      · rw [if_neg q]
        obtain ⟨j, j1, j2, j3⟩ := ih (x := x) (by omega)
        exact ⟨j, by omega, j2, j3⟩
theorem zkv_wd {g0 : zS} {m S : Nat} {U : Nat → Int32} (Wd : zWds g0 m U) : zWds g0 (zct S m) (zkv U S m) := by
  intro x hx
  obtain ⟨j, j1, -, j3⟩ := zkv_in (U := U) hx
  rw [j3]
  exact Wd j j1
def zol (g0 : zS) (U : Nat → Int32) (m : Nat) (c : Int32) (S : Nat) : Bool := zho U S m && decide (¬ c < nI (zPr g0 0 (g0 34 0) (zct S m) (zkv U S m)))
def zbt (s : Nat) : Nat := if s = 999 then 9 else zbc s 8
def zlo (A : Nat → Bool) : Nat → Nat → Nat → Nat
  | 0, _, b => b
  | d + 1, i, b => zlo A d (i + 1) (if A i = true ∧ zbt i < zbt b then i else b)
theorem zlo_s {A : Nat → Bool} {d i b : Nat} : zlo A (d + 1) i b = zlo A d (i + 1) (if A i = true ∧ zbt i < zbt b then i else b) := rfl
theorem zbc_le {s : Nat} : ∀ {i : Nat}, zbc s i ≤ i := by
  intro i
  induction i with
  | zero => exact Nat.le_refl _
  | succ i ih =>
    rw [zbc_s]
    have : (s.testBit i).toNat ≤ 1 := by cases s.testBit i <;> decide
    omega
theorem zbt_le {s : Nat} : zbt s ≤ 9 := by
  unfold zbt
  by_cases h : s = 999
  · rw [if_pos h]; omega
  · rw [if_neg h]
    have := @zbc_le s 8
    omega
theorem zlo_st {A : Nat → Bool} : ∀ {d i b : Nat}, i + d < 999 → ¬ b = 999 → ¬ zlo A d i b = 999 := by
  intro d
  induction d with
  | zero => intro i b _ h; exact h
  | succ d ih =>
    intro i b h1 h2
    rw [zlo_s]
    refine ih (by omega) ?_
    by_cases q : A i = true ∧ zbt i < zbt b
    · rw [if_pos q]; omega
    · rw [if_neg q]; exact h2
theorem zlo_ne {A : Nat → Bool} {j : Nat} (hA : A j = true) : ∀ {d i b : Nat}, i + d < 999 → i ≤ j → j < i + d → ¬ zlo A d i b = 999 := by
  intro d
  induction d with
  | zero => intro i b _ h1 h2; omega
  | succ d ih =>
    intro i b h1 h2 h3
    rw [zlo_s]
    by_cases q : i = j
    · refine zlo_st (by omega) ?_
      by_cases z : A i = true ∧ zbt i < zbt b
      · rw [if_pos z]; omega
      · rw [if_neg z]
        intro hb
        refine z ⟨by rw [q]; exact hA, ?_⟩
        rw [hb]
        unfold zbt
        rw [if_neg (by omega), if_pos rfl]
        have := @zbc_le i 8
        omega
    · exact ih (by omega) (by omega) (by omega)
theorem zlo_lt {A : Nat → Bool} : ∀ {d i b : Nat}, (b < i ∨ b = 999) → zlo A d i b < i + d ∨ zlo A d i b = 999 := by
  intro d
  induction d with
  | zero => intro i b h; exact h
  | succ d ih =>
    intro i b h
    rw [zlo_s, show i + (d + 1) = i + 1 + d by omega]
    refine ih ?_
    by_cases q : A i = true ∧ zbt i < zbt b
    · rw [if_pos q]; omega
    · rw [if_neg q]; omega
theorem f111_d : ∀ s, s < 256 → (f111 0 (nI s) zg0).map Prod.fst = some (nI (zbc s 8)) := by decide +kernel
theorem f111_g {K : Nat} {x : Int32} {g : zS} : f111 K x g = ((f111 0 x zg0).map Prod.fst).map (fun v => (v, g)) := rfl
theorem f111_eq {K s : Nat} {g : zS} (hs : s < 256) : f111 K (nI s) g = some (nI (zbc s 8), g) := by
  rw [f111_g, f111_d s hs]
  rfl
-- ===== the class leaves out =====
theorem f112_lp {K m S : Nat} {U : Nat → Int32} {g0 : zS} (hs : S < 2 ^ 31) (hm : m ≤ 8) (hL : ∀ g, zScr g0 g → zLn 180 m U g) : ∀ d i q (g : zS), i + d = m → d < q → zScr g0 g → g 214 1 = nI (zct S i) → (∀ x, x < zct S i → g 216 x = zkv U S i x) → zho U S i = true → ∃ g', f112_10 K q 180 (nI S) (nI i) g = some (nI (zho U S m).toNat, g') ∧ zScr g0 g' ∧ (∀ c, c ≠ 214 → c ≠ 216 → g' c = g c) ∧ (zho U S m = true → g' 214 1 = nI (zct S m) ∧ ∀ x, x < zct S m → g' 216 x = zkv U S m x) := by
  intro d
  induction d with
  | zero =>
    intro i q g h1 h2 s h3 h4 h5
    obtain ⟨q, rfl⟩ : ∃ z, q = z + 1 := ⟨q - 1, by omega⟩
    have hi : i = m := by omega
    subst hi
    refine ⟨g, ?_, s, fun c _ _ => rfl, fun _ => ⟨h3, h4⟩⟩
    rw [f112_10, (hL g s).2.2.1, if_pos (nI_le (by omega) (by omega)), h5]
    rfl
  | succ d ih =>
    intro i q g h1 h2 s h3 h4 h5
    obtain ⟨q, rfl⟩ : ∃ z, q = z + 1 := ⟨q - 1, by omega⟩
    rw [f112_10, (hL g s).2.2.1, if_neg (nI_ge (by omega) (by omega)), f64_eq hs (by omega), zbd_s, f62_eq (hL g s) (by omega), if_pos (show i < m by omega), zbd_s, zbd_s]
    unfold f112_53
    rw [nI_1]
    cases hb : S.testBit i with
    | true =>
      rw [if_pos (show ¬ nI true.toNat = 0 by decide)]
      by_cases hu : U i = -1
      · have hz : zho U S m = false := by
          have k : ∀ e, zho U S (i + 1 + e) = false := by
            intro e
            induction e with
            | zero => rw [Nat.add_zero, zho_s, hb, decide_eq_true hu, Bool.and_self, Bool.not_true, Bool.and_false]
            | succ e ihe => rw [show i + 1 + (e + 1) = (i + 1 + e) + 1 by omega, zho_s, ihe, Bool.false_and]
          have := k d
          rw [show i + 1 + d = m by omega] at this
          exact this
        refine ⟨g, ?_, s, fun c _ _ => rfl, fun z => by rw [hz] at z; exact absurd z (by decide)⟩
        rw [if_neg (fun z => z hu), hz]
        rfl
      · rw [if_pos hu]
        refine ih (i + 1) q g (by omega) (by omega) s ?_ (fun x hx => ?_) ?_
        · rw [zct_s, if_pos hb]; exact h3
        · rw [zct_s, if_pos hb] at hx
          rw [zkv_s, if_pos hb]
          exact h4 x hx
        · rw [zho_s, h5, hb, decide_eq_false hu]; rfl
    | false =>
      have hc := @zct_le S i
      rw [if_neg (show ¬ ¬ nI false.toNat = 0 by decide)]
      have e69 : f69 K 214 (U i) g = some (1, zup (zup g 216 (zct S i) (U i)) 214 1 (nI (zct S i + 1))) := by
        unfold f69
        rw [h3, show (8 : Int32) = nI 8 from rfl, if_pos (nI_lt (by omega) (by omega)), f14_eq (by exact (show zct S i < 8 by omega)) (by decide), zbd_s, show (zup g (214 + 1 + 1) (zct S i) (U i)) 214 1 = nI (zct S i) by rw [zup_c (by decide)]; exact h3, nI_1]
      obtain ⟨g', e1, e2, e3, e4⟩ := ih (i + 1) q (zup (zup g 216 (zct S i) (U i)) 214 1 (nI (zct S i + 1))) (by omega) (by omega) (zScr_up (zScr_up s (by unfold zKeep; omega)) (by unfold zKeep; omega)) (by rw [zct_s, hb, if_neg (by decide), zup_s]) (fun x hx => by
        rw [zct_s, hb, if_neg (by decide)] at hx
        rw [zkv_s, hb, if_neg (by decide), zup_c (by decide), zup_e]
        by_cases q : x = zct S i
        · rw [if_pos q, if_pos q]
        · rw [if_neg q, if_neg q]
          exact h4 x (by omega)) (by rw [zho_s, h5, hb]; rfl)
      refine ⟨g', ?_, e2, fun c c1 c2 => by rw [e3 c c1 c2, zup_c c1, zup_c c2], e4⟩
      rw [e69, zbd_s]
      exact e1
theorem zl216 : zlen (214 + 1 + 1) = 8 := by decide +kernel
theorem f110_lp {K n m : Nat} {c : Int32} {g0 : zS} (hK : 20 ≤ K) (I : zInv n g0) (hm : m ≤ 8) (l1 : g0 180 1 = nI m) (Wd : zWds g0 m (g0 182)) : ∀ d S q b (g : zS), S + d = 2 ^ m → d < q → (b < S ∨ b = 999) → zScr g0 g → zKin g0 (g0 34 0) g → g 213 3 = nI (zbt b) → g 213 5 = (if b = 999 then 0 else nI b) → ∃ g', f110_14 K q 180 c (nI S) g = some ((), g') ∧ zScr g0 g' ∧ g' 213 3 = nI (zbt (zlo (zol g0 (g0 182) m c) d S b)) ∧ g' 213 5 = (if zlo (zol g0 (g0 182) m c) d S b = 999 then 0 else nI (zlo (zol g0 (g0 182) m c) d S b)) := by
  have h256 : 2 ^ m ≤ 256 := Nat.le_trans (Nat.pow_le_pow_right (by decide) hm) (by decide)
  intro d
  induction d with
  | zero =>
    intro S q b g h1 h2 h3 s kn h5 h6
    obtain ⟨q, rfl⟩ : ∃ z, q = z + 1 := ⟨q - 1, by omega⟩
    refine ⟨g, ?_, s, h5, h6⟩
    rw [f110_14, (zLn_180 s hm l1).2.2.1, nx_one (by omega), if_pos (nI_le (by omega) (by omega))]
  | succ d ih =>
    intro S q b g h1 h2 h3 s kn h5 h6
    obtain ⟨q, rfl⟩ : ∃ z, q = z + 1 := ⟨q - 1, by omega⟩
    have hb9 := @zbt_le b
    have hbS : zbt S = zbc S 8 := if_neg (by omega)
    have hS8 := @zbc_le S 8
    rw [f110_14, (zLn_180 s hm l1).2.2.1, nx_one (by omega), if_neg (nI_ge (by omega) (by omega)), f111_eq (by omega), zbd_s, h5, zlo_s]
    unfold f110_76
    rw [nI_1]
    by_cases y1 : zbt b ≤ zbc S 8
    · rw [if_pos (nI_le y1 (by omega)), if_neg (show ¬ (zol g0 (g0 182) m c S = true ∧ zbt S < zbt b) from fun z => by have := z.2; omega)]
      exact ih (S + 1) q b g (by omega) (by omega) (by omega) s kn h5 h6
    rw [if_neg (nI_ge (by omega) (by omega))]
    obtain ⟨g1, e1, e2, e3, e4⟩ := f112_lp (K := K) (m := m) (S := S) (U := g0 182) (g0 := g0) (by omega) hm (fun g sg => zLn_180 sg hm l1) m 0 K (zup g 214 1 0) (by omega) (by omega) (zScr_up s (by unfold zKeep; omega)) (zup_s _ _ _ _) (fun x hx => absurd hx (Nat.not_lt_zero _)) rfl
    have e1 : f112 K 180 (nI S) g = some (nI (zho (g0 182) S m).toNat, g1) := e1
    have kn1 : zKin g0 (g0 34 0) g1 := ⟨by rw [e3 183 (by decide) (by decide), zup_c (by decide)]; exact kn.1, fun a q1 q2 => by rw [e3 185 (by decide) (by decide), zup_c (by decide)]; exact kn.2 a q1 q2⟩
    have a3 : g1 213 3 = nI (zbt b) := by rw [e3 213 (by decide) (by decide), zup_c (by decide)]; exact h5
    have a5 : g1 213 5 = (if b = 999 then 0 else nI b) := by rw [e3 213 (by decide) (by decide), zup_c (by decide)]; exact h6
    rw [e1, zbd_s]
    cases hz : zho (g0 182) S m with
    | false =>
      rw [if_pos (by decide), if_neg (show ¬ (zol g0 (g0 182) m c S = true ∧ zbt S < zbt b) from fun z => by have := z.1; unfold zol at this; rw [hz, Bool.false_and] at this; exact absurd this (by decide))]
      exact ih (S + 1) q b g1 (by omega) (by omega) (by omega) e2 kn1 a3 a5
    | true =>
      obtain ⟨f1, f2⟩ := e4 hz
      have L : zLn 214 (zct S m) (zkv (g0 182) S m) g1 := ⟨zl216, Nat.le_trans zct_le hm, f1, f2⟩
      rw [if_neg (by decide), f60_sp hK I.2.1 L (zkv_wd Wd) kn1, zbd_s]
      by_cases y2 : c < nI (zPr g0 0 (g0 34 0) (zct S m) (zkv (g0 182) S m))
      · rw [if_pos y2, if_neg (show ¬ (zol g0 (g0 182) m c S = true ∧ zbt S < zbt b) from fun z => by have := z.1; unfold zol at this; rw [hz, decide_eq_false (fun w => w y2)] at this; exact absurd this (by decide))]
        exact ih (S + 1) q b g1 (by omega) (by omega) (by omega) e2 kn1 a3 a5
      · have ho : zol g0 (g0 182) m c S = true := by
          unfold zol
          rw [hz, decide_eq_true y2]; rfl
        rw [if_neg y2, if_pos (show zol g0 (g0 182) m c S = true ∧ zbt S < zbt b from ⟨ho, by omega⟩)]
        exact ih (S + 1) q S _ (by omega) (by omega) (by omega) (zScr_up (zScr_up e2 (by unfold zKeep; omega)) (by unfold zKeep; omega)) ⟨by rw [zup_c (by decide), zup_c (by decide)]; exact kn1.1, fun a q1 q2 => by rw [zup_c (by decide), zup_c (by decide)]; exact kn1.2 a q1 q2⟩ (by rw [zup_k (by decide), zup_s, hbS]) (by rw [zup_s, if_neg (by omega)])
-- ===== the reference =====
theorem f209_lp {K m S : Nat} {U : Nat → Int32} {g0 g : zS} (s : zScr g0 g) (hs : S < 2 ^ 31) (hm : m ≤ 8) (l2 : g0 222 18 = nI m) (hU : ∀ i, i < m → g 232 i = U i) : ∀ d i q, i + d = m → d < q → f209_4 K q (nI S) (nI (zho U S i).toNat) (nI i) g = some (nI (zho U S m).toNat, g) := by
  intro d
  induction d with
  | zero =>
    intro i q h1 h2
    obtain ⟨q, rfl⟩ : ∃ z, q = z + 1 := ⟨q - 1, by omega⟩
    rw [f209_4, zScr_222 s (by omega), l2, if_pos (nI_le (by omega) (by omega)), show i = m by omega]
    cases zho U S m
    · rw [if_pos (by decide)]
    · rw [if_pos (by decide)]
  | succ d ih =>
    intro i q h1 h2
    obtain ⟨q, rfl⟩ : ∃ z, q = z + 1 := ⟨q - 1, by omega⟩
    have := ih (i + 1) q (by omega) (by omega)
    rw [zho_s] at this
    rw [f209_4, zScr_222 s (by omega), l2, if_neg (nI_ge (by omega) (by omega))]
    unfold f209_38 f209_34 f209_39
    rw [nI_1]
    cases hz : zho U S i with
    | false =>
      rw [hz, Bool.false_and] at this
      rw [if_pos (by decide)]
      exact this
    | true =>
      rw [hz, Bool.true_and] at this
      rw [if_neg (by decide), f177_eq hs (by omega), zbd_s]
      cases hb : S.testBit i with
      | false =>
        rw [hb, Bool.false_and] at this
        rw [if_pos (by decide)]
        exact this
      | true =>
        rw [hb, Bool.true_and] at this
        rw [if_neg (by decide), if_pos (zin_i (show i < 8 by omega) (by decide)), nI_clamp (show i < 2 ^ 31 by omega), hU i (by omega)]
        by_cases hu : U i = -1
        · rw [if_pos hu]
          rw [decide_eq_true hu] at this
          exact this
        · rw [if_neg hu]
          rw [decide_eq_false hu] at this
          exact this
theorem f211_lp {K m S : Nat} {U : Nat → Int32} {g0 : zS} (hs : S < 2 ^ 31) (hm : m ≤ 8) (l2 : g0 222 18 = nI m) (hU : ∀ i, i < m → g0 232 i = U i) : ∀ d i q (g : zS), i + d = m → d < q → zScr g0 g → g 222 29 = nI (zct S i) → (∀ x, x < zct S i → g 235 x = zkv U S i x) → ∃ g', f211_7 K q (nI S) (nI i) g = some ((), g') ∧ zScr g0 g' ∧ g' 222 29 = nI (zct S m) ∧ ∀ x, x < zct S m → g' 235 x = zkv U S m x := by
  intro d
  induction d with
  | zero =>
    intro i q g h1 h2 s h3 h4
    obtain ⟨q, rfl⟩ : ∃ z, q = z + 1 := ⟨q - 1, by omega⟩
    have hi : i = m := by omega
    subst hi
    refine ⟨g, ?_, s, h3, h4⟩
    rw [f211_7, zScr_222 s (by omega), l2, if_pos (nI_le (by omega) (by omega))]
  | succ d ih =>
    intro i q g h1 h2 s h3 h4
    obtain ⟨q, rfl⟩ : ∃ z, q = z + 1 := ⟨q - 1, by omega⟩
    rw [f211_7, zScr_222 s (by omega), l2, if_neg (nI_ge (by omega) (by omega)), f177_eq hs (by omega), zbd_s]
    unfold f211_48
    rw [nI_1]
    cases hb : S.testBit i with
    | true =>
      rw [if_pos (show ¬ nI true.toNat = 0 by decide)]
      exact ih (i + 1) q g (by omega) (by omega) s (by rw [zct_s, if_pos hb]; exact h3) (fun x hx => by
        rw [zct_s, if_pos hb] at hx
        rw [zkv_s, if_pos hb]
        exact h4 x hx)
    | false =>
      have hc := @zct_le S i
      rw [if_neg (show ¬ ¬ nI false.toNat = 0 by decide), if_pos (zin_i (show i < 8 by omega) (by decide)), h3, if_pos (zin_i (show zct S i < 8 by omega) (by decide)), nI_clamp (show i < 2 ^ 31 by omega), nI_clamp (show zct S i < 2 ^ 31 by omega), show (zup g 235 (zct S i) (g 232 i)) 222 29 = nI (zct S i) by rw [zup_c (by decide)]; exact h3, nI_1, zScr_c s (c := 232) (by omega), hU i (by omega)]
      exact ih (i + 1) q _ (by omega) (by omega) (zScr_up (zScr_up s (by unfold zKeep; omega)) (by unfold zKeep; omega)) (by rw [zct_s, hb, if_neg (by decide), zup_s]) (fun x hx => by
        rw [zct_s, hb, if_neg (by decide)] at hx
        rw [zkv_s, hb, if_neg (by decide), zup_c (by decide), zup_e]
        by_cases q : x = zct S i
        · rw [if_pos q, if_pos q]
        · rw [if_neg q, if_neg q]
          exact h4 x (by omega))
theorem f208_lp {K n m : Nat} {c x2 : Int32} {g0 : zS} (hK : 20 ≤ K) (I : zInv n g0) (hm : m ≤ 8) (l2 : g0 222 18 = nI m) (Wd : zWds g0 m (g0 182)) (l3 : ∀ i, i < m → g0 182 i = g0 232 i) : ∀ d S q b (g : zS), S + d = 2 ^ m → d < q → (b < S ∨ b = 999) → zScr g0 g → ¬ zlo (zol g0 (g0 182) m c) d S b = 999 → ∃ g', f208_30 K q c x2 (if b = 999 then -1 else nI b) (nI S) g = some (if x2 = 0 then nI (zbt (zlo (zol g0 (g0 182) m c) d S b)) else nI (zlo (zol g0 (g0 182) m c) d S b), g') ∧ zScr g0 g' := by
  have h256 : 2 ^ m ≤ 256 := Nat.le_trans (Nat.pow_le_pow_right (by decide) hm) (by decide)
  intro d
  induction d with
  | zero =>
    intro S q b g h1 h2 h3 s hne
    obtain ⟨q, rfl⟩ : ∃ z, q = z + 1 := ⟨q - 1, by omega⟩
    have hne : ¬ b = 999 := hne
    refine ⟨g, ?_, s⟩
    rw [f208_30, zScr_222 s (by omega), l2, nx_one (by omega), if_pos (nI_le (by omega) (by omega)), if_neg hne]
    by_cases z : x2 = 0
    · rw [if_neg (fun y => y z), f210_eq hK (by omega), zbd_s, if_pos z]
      show some (nI (zbc b 8), g) = some (nI (zbt b), g)
      unfold zbt
      rw [if_neg hne]
    · rw [if_pos z, if_neg z]
      rfl
  | succ d ih =>
    intro S q b g h1 h2 h3 s hne
    obtain ⟨q, rfl⟩ : ∃ z, q = z + 1 := ⟨q - 1, by omega⟩
    have hb9 := @zbt_le b
    have hbS : zbt S = zbc S 8 := if_neg (by omega)
    have hS8 := @zbc_le S 8
    rw [zlo_s] at hne
    have e9 : f209 K (nI S) g = some (nI (zho (g0 182) S m).toNat, g) := f209_lp (K := K) s (by omega) hm l2 (fun i hi => by rw [zScr_c s (by omega)]; exact (l3 i hi).symm) m 0 K (by omega) (by omega)
    rw [f208_30, zScr_222 s (by omega), l2, nx_one (by omega), if_neg (nI_ge (by omega) (by omega)), e9, zbd_s, zlo_s]
    unfold f208_88
    rw [nI_1]
    cases hz : zho (g0 182) S m with
    | false =>
      have hno : ¬ (zol g0 (g0 182) m c S = true ∧ zbt S < zbt b) := fun z => by
        have := z.1
        unfold zol at this
        rw [hz, Bool.false_and] at this
        exact absurd this (by decide)
      rw [if_neg hno] at hne
      rw [if_pos (by decide), if_neg hno]
      exact ih (S + 1) q b g (by omega) (by omega) (by omega) s hne
    | true =>
      rw [if_neg (show ¬ nI true.toNat = 0 by decide)]
      -- the price, once it is asked
      have go : zbt S < zbt b → ∃ g', f208_67 K (f208_30 K q) c x2 (if b = 999 then -1 else nI b) (nI S) g = some (if x2 = 0 then nI (zbt (zlo (zol g0 (g0 182) m c) d (S + 1) (if zol g0 (g0 182) m c S = true ∧ zbt S < zbt b then S else b))) else nI (zlo (zol g0 (g0 182) m c) d (S + 1) (if zol g0 (g0 182) m c S = true ∧ zbt S < zbt b then S else b)), g') ∧ zScr g0 g' := by
        intro hlt
        obtain ⟨g1, e1, e2, e3, e4⟩ := f211_lp (K := K) (S := S) (m := m) (U := g0 182) (g0 := g0) (by omega) hm l2 (fun i hi => (l3 i hi).symm) m 0 K (zup g 222 29 0) (by omega) (by omega) (zScr_up s (by unfold zKeep; omega)) (zup_s _ _ _ _) (fun x hx => absurd hx (Nat.not_lt_zero _))
        have e1 : f211 K (nI S) g = some ((), g1) := e1
        obtain ⟨g2, e5, e6, -⟩ := f205_sp hK I e2 (zkv_wd (S := S) Wd) ⟨Nat.le_trans zct_le hm, e3, e4⟩
        unfold f208_67
        rw [e1, zbd_s, e5, zbd_s]
        unfold f208_87 f208_88
        rw [nI_1]
        by_cases y2 : c < nI (zPr g0 0 (g0 34 0) (zct S m) (zkv (g0 182) S m))
        · have hno : ¬ (zol g0 (g0 182) m c S = true ∧ zbt S < zbt b) := fun z => by
            have := z.1
            unfold zol at this
            rw [hz, decide_eq_false (fun w => w y2)] at this
            exact absurd this (by decide)
          rw [if_neg hno] at hne
          rw [if_pos y2, if_neg hno]
          exact ih (S + 1) q b g2 (by omega) (by omega) (by omega) e6 hne
        · have hyes : zol g0 (g0 182) m c S = true ∧ zbt S < zbt b := ⟨by unfold zol; rw [hz, decide_eq_true y2]; rfl, hlt⟩
          rw [if_pos hyes] at hne
          rw [if_neg y2, if_pos hyes]
          have := ih (S + 1) q S g2 (by omega) (by omega) (by omega) e6 hne
          rw [if_neg (show ¬ S = 999 by omega)] at this
          exact this
      by_cases hb : b = 999
      · have : (if b = 999 then (-1 : Int32) else nI b) = -1 := if_pos hb
        rw [if_pos this]
        refine go ?_
        rw [hb, hbS]
        unfold zbt
        rw [if_pos rfl]
        omega
      · have e0 : (if b = 999 then (-1 : Int32) else nI b) = nI b := if_neg hb
        have hbb : zbt b = zbc b 8 := if_neg hb
        have hb8 := @zbc_le b 8
        rw [if_neg (show ¬ (if b = 999 then (-1 : Int32) else nI b) = -1 by rw [e0]; exact nI_nm1 (by omega)), f210_eq hK (by omega), zbd_s]
        rw [show f210 K (if b = 999 then (-1 : Int32) else nI b) g = some (nI (zbc b 8), g) by rw [e0]; exact f210_eq hK (by omega), zbd_s]
        by_cases y1 : zbc b 8 ≤ zbc S 8
        · have hno : ¬ (zol g0 (g0 182) m c S = true ∧ zbt S < zbt b) := fun z => by have := z.2; omega
          rw [if_neg hno] at hne
          rw [if_pos (nI_le y1 (by omega)), if_neg hno]
          exact ih (S + 1) q b g (by omega) (by omega) (by omega) s hne
        · rw [if_neg (nI_ge (by omega) (by omega))]
          exact go (by omega)
-- ===== all words left out: it costs nothing =====
def zsw (U : Nat → Int32) : Nat → Nat
  | 0 => 0
  | i + 1 => if U i = -1 then zsw U i else zsw U i ||| 2 ^ i
theorem zsw_s {U : Nat → Int32} {i : Nat} : zsw U (i + 1) = if U i = -1 then zsw U i else zsw U i ||| 2 ^ i := rfl
theorem zsw_b {U : Nat → Int32} : ∀ {i : Nat}, zsw U i < 2 ^ i ∧ ∀ j, (zsw U i).testBit j = (decide (j < i) && !decide (U j = -1)) := by
  intro i
  induction i with
  | zero => exact ⟨Nat.zero_lt_one, fun j => by unfold zsw; rw [Nat.zero_testBit, decide_eq_false (Nat.not_lt_zero j)]; rfl⟩
  | succ i ih =>
    obtain ⟨h1, h2⟩ := ih
    rw [zsw_s]
    have hp : 2 ^ i < 2 ^ (i + 1) := Nat.pow_lt_pow_right (by decide) (by omega)
    by_cases h : U i = -1
    · rw [if_pos h]
      refine ⟨by omega, fun j => ?_⟩
      rw [h2 j]
      by_cases q : j = i
      · rw [q, decide_eq_false (Nat.lt_irrefl i), decide_eq_true h]; simp
      · by_cases q2 : j < i
        · rw [decide_eq_true q2, decide_eq_true (show j < i + 1 by omega)]
        · rw [decide_eq_false q2, decide_eq_false (show ¬ j < i + 1 by omega)]
    · rw [if_neg h]
      refine ⟨Nat.or_lt_two_pow (by omega) hp, fun j => ?_⟩
      rw [Nat.testBit_or, h2 j, Nat.testBit_two_pow]
      by_cases q : j = i
      · rw [q, decide_eq_false (Nat.lt_irrefl i), decide_eq_true (show i = i from rfl), decide_eq_true (show i < i + 1 by omega), decide_eq_false h]; rfl
      · by_cases q2 : j < i
        · rw [decide_eq_true q2, decide_eq_true (show j < i + 1 by omega), decide_eq_false (show ¬ i = j by omega), Bool.or_false]
        · rw [decide_eq_false q2, decide_eq_false (show ¬ j < i + 1 by omega), decide_eq_false (show ¬ i = j by omega), Bool.or_false]
theorem zps_0 {l : Nat} {κ : Int32} {Q U : Nat → Int32} : ∀ {d i s : Nat} {f : Bool}, (∀ j, i ≤ j → j < i + d → zpc l Q U j = 0) → zps l κ Q U d i s f = s := by
  intro d
  induction d with
  | zero => intro i s f _; rfl
  | succ d ih =>
    intro i s f h
    unfold zps
    rw [h i (by omega) (by omega), Nat.zero_sub, Nat.add_zero]
    exact ih fun j j1 j2 => h j (by omega) (by omega)
theorem zol_all {g0 : zS} {m : Nat} {U : Nat → Int32} {c : Nat} (hc : c < 1000) : zol g0 U m (nI c) (zsw U m) = true := by
  obtain ⟨h1, h2⟩ := @zsw_b U m
  have ho : ∀ i, i ≤ m → zho U (zsw U m) i = true := by
    intro i
    induction i with
    | zero => intro _; rfl
    | succ i ih =>
      intro hi
      rw [zho_s, ih (by omega), h2 i]
      cases decide (U i = -1) <;> cases decide (i < m) <;> rfl
  have hv : ∀ x, x < zct (zsw U m) m → zkv U (zsw U m) m x = -1 := by
    intro x hx
    obtain ⟨j, j1, j2, j3⟩ := zkv_in (U := U) hx
    rw [j3]
    rw [h2 j, decide_eq_true j1, Bool.true_and] at j2
    by_cases h : U j = -1
    · exact h
    · rw [decide_eq_false h] at j2
      exact absurd j2 (by decide)
  unfold zol
  rw [ho m (Nat.le_refl _), Bool.true_and]
  have hp : zPr g0 0 (g0 34 0) (zct (zsw U m) m) (zkv U (zsw U m) m) = 0 := by
    unfold zPr
    refine zps_0 fun j _ hj => ?_
    unfold zpc
    rw [if_pos (Or.inl (show ¬ zaj (zQ g0 (g0 34 0) (zct (zsw U m) m) (zkv U (zsw U m) m) j) by
      rw [zQ_m1 j (by omega) (hv j (by omega))]
      decide))]
  rw [hp]
  exact decide_eq_true (nI_pos (by omega))
theorem zp_leftOut {K : Nat} (hK : 300 ≤ K) (n : Nat) (x y : Int32) : zPair (zInv n) (zInv (n + 1)) (f109 K x y) (f208 K x y) := by
  refine zPair_scr fun g I => ?_
  obtain ⟨m, m8, l1, l2, Wd, l3⟩ := zli I
  have h256 : 2 ^ m ≤ 256 := Nat.le_trans (Nat.pow_le_pow_right (by decide) m8) (by decide)
  by_cases hx : zwi x 0 99 = 0
  · refine ⟨-3, zR_eq (g := g) ?_ ⟨rfl, zScr_0⟩, fun g1 s1 => zR_eq (g := g1) ?_ ⟨rfl, s1⟩⟩
    · unfold f109
      rw [f12_eq, zbd_s, if_pos hx]
    · unfold f208
      rw [i64_0, i64_99, f146_eq, zbd_s, if_pos hx]
  obtain ⟨c, c1, rfl⟩ := zwi_of (b := 99) (by decide) hx
  by_cases hy : zwi y 0 1 = 0
  · refine ⟨-3, zR_eq (g := g) ?_ ⟨rfl, zScr_0⟩, fun g1 s1 => zR_eq (g := g1) ?_ ⟨rfl, s1⟩⟩
    · unfold f109
      rw [f12_eq, zbd_s, if_neg hx, f12_eq, zbd_s, if_neg (fun q => q hy)]
    · unfold f208
      rw [i64_0, i64_99, f146_eq, zbd_s, if_neg hx, i64_1, f146_eq, zbd_s, if_neg (fun q => q hy)]
  have hne : ¬ zlo (zol g (g 182) m (nI c)) (2 ^ m) 0 999 = 999 := zlo_ne (zol_all (by omega)) (by omega) (Nat.zero_le _) (by have := (@zsw_b (g 182) m).1; omega)
  refine ⟨if y = 0 then nI (zbt (zlo (zol g (g 182) m (nI c)) (2 ^ m) 0 999)) else nI (zlo (zol g (g 182) m (nI c)) (2 ^ m) 0 999), ?_, fun g1 s1 => ?_⟩
  · obtain ⟨g1, e1, e2, e3, e4⟩ := f59_sp (K := K) (x := g 34 0) (by omega) I.2.1 zScr_0
    obtain ⟨g2, d1, d2, d3, d4⟩ := f110_lp (K := K) (c := nI c) (by omega) I m8 l1 Wd (2 ^ m) 0 K 999 (zup (zup g1 213 3 9) 213 5 0) (by omega) (by omega) (Or.inr rfl) (zScr_up (zScr_up e2 (by unfold zKeep; omega)) (by unfold zKeep; omega)) ⟨by rw [zup_c (by decide), zup_c (by decide)]; exact e4.1, fun a q1 q2 => by rw [zup_c (by decide), zup_c (by decide)]; exact e4.2 a q1 q2⟩ (by rw [zup_k (by decide), zup_s]; rfl) (by rw [zup_s]; rfl)
    have d1 : f110 K 180 (nI c) g1 = some ((), g2) := d1
    rw [if_neg hne] at d4
    refine zR_eq (g := g2) ?_ ⟨rfl, d2⟩
    unfold f109
    rw [f12_eq, zbd_s, if_neg hx, f12_eq, zbd_s, if_pos hy, e1, zbd_s, d1, zbd_s, d3, d4]
    by_cases z : y = 0
    · rw [if_neg (fun w => w z), if_pos z]
    · rw [if_pos z, if_neg z]
  · obtain ⟨g2, e1, e2⟩ := f208_lp (K := K) (c := nI c) (x2 := y) (by omega) I m8 l2 Wd l3 (2 ^ m) 0 K 999 g1 (by omega) (by omega) (Or.inr rfl) s1 hne
    refine zR_eq (g := g2) ?_ ⟨rfl, e2⟩
    unfold f208
    rw [i64_0, i64_99, f146_eq, zbd_s, if_neg hx, i64_1, f146_eq, zbd_s, if_pos hy]
    exact e1
