-- ===== payments: the class =====
def zN (g0 : zS) (i : Nat) : Int32 := zfo (fun j => g0 (34 + 12) (j * 4 + i) - g0 (34 + 12) (i * 4 + j)) 4 0 0
def zZ (g0 : zS) (p S : Nat) : Bool := decide (zss (zN g0) S p = 0)
def zmg (T : Nat → Nat) (S : Nat) : Nat → Nat
  | 0 => 0
  | i + 1 => if S.testBit i = true then (if zmg T S i < T (S - 2 ^ i) then T (S - 2 ^ i) else zmg T S i) else zmg T S i
theorem zmg_s {T : Nat → Nat} {S i : Nat} : zmg T S (i + 1) = if S.testBit i = true then (if zmg T S i < T (S - 2 ^ i) then T (S - 2 ^ i) else zmg T S i) else zmg T S i := rfl
theorem zmg_le {T : Nat → Nat} {S B : Nat} (h : ∀ x, T x ≤ B) : ∀ {i : Nat}, zmg T S i ≤ B := by
  intro i
  induction i with
  | zero => exact Nat.zero_le _
  | succ i ih =>
    rw [zmg_s]
    by_cases q : S.testBit i = true
    · rw [if_pos q]
      by_cases q2 : zmg T S i < T (S - 2 ^ i)
      · rw [if_pos q2]; exact h _
      · rw [if_neg q2]; exact ih
    · rw [if_neg q]; exact ih
/-- the class's table, behind set k -/
def zTb (Z : Nat → Bool) (p : Nat) : Nat → Nat → Nat
  | 0, _ => 0
  | k + 1, S => if S = k + 1 then zmg (zTb Z p k) (k + 1) p + (if Z (k + 1) = true then 1 else 0) else zTb Z p k S
theorem zTb_s {Z : Nat → Bool} {p k S : Nat} : zTb Z p (k + 1) S = if S = k + 1 then zmg (zTb Z p k) (k + 1) p + (if Z (k + 1) = true then 1 else 0) else zTb Z p k S := rfl
theorem zTb_le {Z : Nat → Bool} {p : Nat} : ∀ {k S : Nat}, zTb Z p k S ≤ k := by
  intro k
  induction k with
  | zero => intro S; exact Nat.le_refl _
  | succ k ih =>
    intro S
    rw [zTb_s]
    by_cases q : S = k + 1
    · rw [if_pos q]
      have := @zmg_le (zTb Z p k) (k + 1) k (fun x => ih) p
      by_cases z : Z (k + 1) = true
      · rw [if_pos z]; omega
      · rw [if_neg z]; omega
    · rw [if_neg q]
      exact Nat.le_succ_of_le ih
theorem f139_eq {K i : Nat} {g : zS} (hK : 20 ≤ K) (hi : i < 4) : f139 K 34 (nI i) g = some (zN g i, g) := f139_lp (K := K) (by decide) hi 4 0 K 0 (by omega) (by omega)
theorem zN_c {g0 g : zS} (s : zScr g0 g) : zN g = zN g0 := by
  funext i
  unfold zN
  rw [zScr_c s (c := 34 + 12) (by omega)]
theorem zl221 : zlen (220 + 1) = 16 := by decide +kernel
theorem tb_le {S i : Nat} (h : S.testBit i = true) : 2 ^ i ≤ S := by
  refine Nat.le_of_not_lt fun q => ?_
  rw [Nat.testBit_lt_two_pow q] at h
  exact absurd h (by decide)
theorem f141_24_lp {K n p S : Nat} {g0 g : zS} {T : Nat → Nat} {k : Nat → Int32 → Int32 → Int32 → zS → Option (Int32 × zS)} (hK : 20 ≤ K) (s : zScr g0 g) (hp : p ≤ 4) (hS : S < 16) (hT : ∀ x, x < S → g 221 x = nI (T x)) (hB : ∀ x, T x ≤ 100) (x3 : Int32) : ∀ d i q, i + d = p → d < q → f141_24 K k q 34 (nI p) x3 (nI S) (nI (zmg T S i)) (zss (zN g0) S i) (nI i) g = k 34 (nI p) x3 (nI (S + 1)) (zup g 221 S (nI (zmg T S p + (if zss (zN g0) S p = 0 then 1 else 0)))) := by
  intro d
  induction d with
  | zero =>
    intro i q h1 h2
    obtain ⟨q, rfl⟩ : ∃ z, q = z + 1 := ⟨q - 1, by omega⟩
    have hi : i = p := by omega
    have fin : ∀ v : Nat, f141_98 K k 34 (nI p) x3 (nI S) (nI S) (nI v) g = k 34 (nI p) x3 (nI (S + 1)) (zup g 221 S (nI v)) := by
      intro v
      unfold f141_98
      rw [f14_eq (by rw [zl221]; exact hS) (by rw [zl221]; decide), zbd_s, nI_1]
    rw [f141_24, if_pos (nI_le (by omega) (by omega)), nI_1, fin, fin, hi]
    by_cases z : zss (zN g0) S p = 0
    · rw [if_neg (fun y => y z), if_pos z]
    · rw [if_pos z, if_neg z]
      rfl
  | succ d ih =>
    intro i q h1 h2
    obtain ⟨q, rfl⟩ : ∃ z, q = z + 1 := ⟨q - 1, by omega⟩
    have := ih (i + 1) q (by omega) (by omega)
    rw [zss_s, zmg_s] at this
    rw [f141_24, if_neg (nI_ge (by omega) (by omega)), f64_eq (by omega) (by omega), zbd_s]
    unfold f141_72
    rw [nI_1]
    cases hb : S.testBit i with
    | false =>
      rw [hb, if_neg (by decide), if_neg (by decide), Int32.add_zero] at this
      rw [if_pos (by decide)]
      exact this
    | true =>
      rw [hb, if_pos rfl, if_pos rfl] at this
      have hle := tb_le hb
      have hpos := Nat.two_pow_pos i
      rw [if_neg (by decide), f139_eq hK (by omega), zbd_s, zN_c s, nx_one (by omega), pk_sub hle, f21_eq (by rw [zl221]; omega) (by rw [zl221]; decide), zbd_s, show g (220 + 1) (S - 2 ^ i) = nI (T (S - 2 ^ i)) from hT _ (by omega)]
      have e : (if nI (zmg T S i) < nI (T (S - 2 ^ i)) then nI (T (S - 2 ^ i)) else nI (zmg T S i)) = nI (if zmg T S i < T (S - 2 ^ i) then T (S - 2 ^ i) else zmg T S i) := by
        have h1 := hB (S - 2 ^ i)
        have h2 := @zmg_le T S 100 hB i
        by_cases z : zmg T S i < T (S - 2 ^ i)
        · rw [if_pos z, if_pos (nI_lt z (by omega))]
        · rw [if_neg z, if_neg (nI_nlt (by omega) (by omega))]
      rw [e]
      exact this
theorem f141_9_lp {K p A : Nat} {g0 : zS} (hK : 20 ≤ K) (hp : p ≤ 4) (hA : A < 16) : ∀ d S q (g : zS), S + d = A + 1 → d < q → 0 < S → zScr g0 g → (∀ x, x < S → g 221 x = nI (zTb (zZ g0 p) p (S - 1) x)) → ∃ g', f141_9 K q 34 (nI p) (nI A) (nI S) g = some (nI p - nI (zTb (zZ g0 p) p A A), g') ∧ zScr g0 g' := by
  intro d
  induction d with
  | zero =>
    intro S q g h1 h2 h3 s hT
    obtain ⟨q, rfl⟩ : ∃ z, q = z + 1 := ⟨q - 1, by omega⟩
    refine ⟨g, ?_, s⟩
    rw [f141_9, if_pos (nI_lt (by omega) (by omega)), f21_eq (by rw [zl221]; exact hA) (by rw [zl221]; decide), zbd_s, show g (220 + 1) A = nI (zTb (zZ g0 p) p (S - 1) A) from hT A (by omega), show S - 1 = A by omega]
  | succ d ih =>
    intro S q g h1 h2 h3 s hT
    obtain ⟨q, rfl⟩ : ∃ z, q = z + 1 := ⟨q - 1, by omega⟩
    have e := f141_24_lp (n := 0) (k := f141_9 K q) hK s hp (show S < 16 by omega) hT (fun x => Nat.le_trans zTb_le (by omega)) (nI A) p 0 K (by omega) (by omega)
    obtain ⟨S1, hS1⟩ : ∃ S1, S = S1 + 1 := ⟨S - 1, by omega⟩
    obtain ⟨g', e1, e2⟩ := ih (S + 1) q (zup g 221 S (nI (zmg (zTb (zZ g0 p) p (S - 1)) S p + (if zss (zN g0) S p = 0 then 1 else 0)))) (by omega) (by omega) (by omega) (zScr_up s (by unfold zKeep; omega)) (fun x hx => by
      rw [zup_e, show S + 1 - 1 = S1 + 1 by omega, show S - 1 = S1 by omega, hS1, zTb_s]
      by_cases z : x = S1 + 1
      · rw [if_pos z, if_pos z]
        refine congrArg (fun w => nI (zmg (zTb (zZ g0 p) p S1) (S1 + 1) p + w)) ?_
        unfold zZ
        by_cases y : zss (zN g0) (S1 + 1) p = 0
        · rw [if_pos y, decide_eq_true y, if_pos rfl]
        · rw [if_neg y, decide_eq_false y, if_neg (by decide)]
      · rw [if_neg z, if_neg z]
        have := hT x (by omega)
        rw [show S - 1 = S1 by omega] at this
        exact this)
    refine ⟨g', ?_, e2⟩
    rw [f141_9, if_neg (nI_nlt (by omega) (by omega))]
    exact e.trans e1
-- ===== the reference =====
/-- a value of the reference's table: one more, 0 for none -/
def zrw (r : Nat) : Int32 := if r = 0 then -1 else nI (r - 1)
theorem zrw_le {a b : Nat} (ha : a < 1000) (hb : b < 1000) : zrw a ≤ zrw b ↔ a ≤ b := by
  unfold zrw
  by_cases h1 : a = 0
  · rw [if_pos h1]
    by_cases h2 : b = 0
    · rw [if_pos h2]; exact ⟨fun _ => by omega, fun _ => by decide⟩
    · rw [if_neg h2, Int32.le_iff_toInt_le, nI_toInt (by omega), show (-1 : Int32).toInt = -1 from rfl]
      omega
  · rw [if_neg h1]
    by_cases h2 : b = 0
    · rw [if_pos h2, Int32.le_iff_toInt_le, nI_toInt (by omega), show (-1 : Int32).toInt = -1 from rfl]
      omega
    · rw [if_neg h2, nI_leI (by omega) (by omega)]
      omega
theorem zrw_n {a : Nat} (ha : a < 1000) : zrw a = -1 ↔ a = 0 := by
  unfold zrw
  by_cases h1 : a = 0
  · rw [if_pos h1]; exact ⟨fun _ => h1, fun _ => rfl⟩
  · rw [if_neg h1]; exact ⟨fun q => absurd q (nI_nm1 (by omega)), fun q => absurd q h1⟩
def zRn (Z : Nat → Bool) (T : Nat → Nat) (S q : Nat) : Nat := if q &&& S = q ∧ Z q = true ∧ ¬ T (S ^^^ q) = 0 then T (S ^^^ q) + 1 else 0
def zRs (Z : Nat → Bool) (T : Nat → Nat) (S : Nat) : Nat → Nat → Nat → Nat
  | 0, _, r => r
  | d + 1, q, r => zRs Z T S d (q + 1) (if zRn Z T S q ≤ r then r else zRn Z T S q)
theorem zRs_s {Z : Nat → Bool} {T : Nat → Nat} {S d q r : Nat} : zRs Z T S (d + 1) q r = zRs Z T S d (q + 1) (if zRn Z T S q ≤ r then r else zRn Z T S q) := rfl
theorem zRn_le {Z : Nat → Bool} {T : Nat → Nat} {S q B : Nat} (h : ∀ x, T x ≤ B) : zRn Z T S q ≤ B + 1 := by
  unfold zRn
  by_cases z : q &&& S = q ∧ Z q = true ∧ ¬ T (S ^^^ q) = 0
  · rw [if_pos z]; have := h (S ^^^ q); omega
  · rw [if_neg z]; omega
theorem zRs_le {Z : Nat → Bool} {T : Nat → Nat} {S B : Nat} (h : ∀ x, T x ≤ B) : ∀ {d q r : Nat}, r ≤ B + 1 → zRs Z T S d q r ≤ B + 1 := by
  intro d
  induction d with
  | zero => intro q r hr; exact hr
  | succ d ih =>
    intro q r hr
    rw [zRs_s]
    refine ih ?_
    by_cases z : zRn Z T S q ≤ r
    · rw [if_pos z]; exact hr
    · rw [if_neg z]; exact zRn_le h
/-- the reference's table, ahead of set k -/
def zRt (Z : Nat → Bool) : Nat → Nat → Nat
  | 0, _ => 0
  | k + 1, S => if S = k then zRs Z (zRt Z k) k k 1 (if k = 0 then 1 else 0) else zRt Z k S
theorem zRt_s {Z : Nat → Bool} {k S : Nat} : zRt Z (k + 1) S = if S = k then zRs Z (zRt Z k) k k 1 (if k = 0 then 1 else 0) else zRt Z k S := rfl
theorem zRt_le {Z : Nat → Bool} : ∀ {k S : Nat}, zRt Z k S ≤ k := by
  intro k
  induction k with
  | zero => intro S; exact Nat.le_refl _
  | succ k ih =>
    intro S
    rw [zRt_s]
    by_cases q : S = k
    · rw [if_pos q]
      refine zRs_le (fun x => ih) ?_
      by_cases z : k = 0
      · rw [if_pos z]; omega
      · rw [if_neg z]; omega
    · rw [if_neg q]
      exact Nat.le_succ_of_le ih
theorem sb16 : ∀ S, S < 16 → ∀ q, q < 16 → ((nI q &&& (nI S ^^^ (-1)) = 0 ↔ q &&& S = q) ∧ nI S ^^^ nI q = nI (S ^^^ q) ∧ S ^^^ q < 16 ∧ (q &&& S = q → 0 < q → S ^^^ q < S)) := by decide +kernel
theorem f227_eq {K n i : Nat} {g0 g : zS} (hK : 20 ≤ K) (I : zInv n g0) (s : zScr g0 g) (hi : i < 4) : f227 K (nI i) g = some (zN g0 i, g) := by
  have e : zfo (fun j => g 223 (57 + 4 * j + i) - g 223 (57 + 4 * i + j)) 4 0 0 = zN g0 i := zfo_congr fun j _ hj => by
    obtain ⟨-, -, -, -, s5, -⟩ := I.2.2.1
    have e1 := (s5 (j * 4 + i) (by omega)).1
    have e2 := (s5 (i * 4 + j) (by omega)).1
    show g 223 (57 + 4 * j + i) - g 223 (57 + 4 * i + j) = g0 (34 + 12) (j * 4 + i) - g0 (34 + 12) (i * 4 + j)
    rw [e1, e2, zScr_c s (by omega), show 0 + 57 + (j * 4 + i) = 57 + 4 * j + i by omega, show 0 + 57 + (i * 4 + j) = 57 + 4 * i + j by omega]
  rw [← e]
  exact f227_lp (K := K) hi 4 0 K 0 (by omega) (by omega)
theorem f229_lp {K n p S : Nat} {g0 g : zS} (hK : 20 ≤ K) (I : zInv n g0) (s : zScr g0 g) (hp : p ≤ 4) (b2 : g0 222 14 = nI p) (hS : S < 16) : ∀ d i q, i + d = p → d < q → f229_4 K q (nI S) (zss (zN g0) S i) (nI i) g = some (zss (zN g0) S p, g) := by
  intro d
  induction d with
  | zero =>
    intro i q h1 h2
    obtain ⟨q, rfl⟩ : ∃ z, q = z + 1 := ⟨q - 1, by omega⟩
    rw [f229_4, zScr_222 s (by omega), b2, if_pos (nI_le (by omega) (by omega)), show i = p by omega]
  | succ d ih =>
    intro i q h1 h2
    obtain ⟨q, rfl⟩ : ∃ z, q = z + 1 := ⟨q - 1, by omega⟩
    have := ih (i + 1) q (by omega) (by omega)
    rw [zss_s] at this
    rw [f229_4, zScr_222 s (by omega), b2, if_neg (nI_ge (by omega) (by omega)), f177_eq (by omega) (by omega), zbd_s]
    unfold f229_30
    rw [nI_1]
    cases hb : S.testBit i with
    | false =>
      rw [hb, if_neg (by decide)] at this
      rw [if_pos (by decide)]
      exact this
    | true =>
      rw [hb, if_pos rfl] at this
      rw [if_neg (by decide), f227_eq hK I s (by omega), zbd_s]
      exact this
theorem f229_eq {K n p S : Nat} {g0 g : zS} (hK : 20 ≤ K) (I : zInv n g0) (s : zScr g0 g) (hp : p ≤ 4) (b2 : g0 222 14 = nI p) (hS : S < 16) : f229 K (nI S) g = some (zss (zN g0) S p, g) := f229_lp hK I s hp b2 hS p 0 K (by omega) (by omega)
theorem f228_82_eq {K S q n r : Nat} {k2 : Int32 → zS → Option (Int32 × zS)} {k25 : Int32 → Int32 → zS → Option (Int32 × zS)} {g : zS} (hS : S < 16) (hn : n < 1000) (hr : r < 1000) (h : g 238 S = zrw r) : f228_82 K k2 k25 (nI S) (nI q) (zrw n) g = k25 (nI S) (nI (q + 1)) (zup g 238 S (zrw (if n ≤ r then r else n))) := by
  unfold f228_82 f228_111
  rw [if_pos (zin_i hS (by decide)), if_pos (zin_i hS (by decide)), if_pos (zin_i hS (by decide)), if_pos (zin_i hS (by decide)), nI_clamp (show S < 2 ^ 31 by omega), h, nI_1]
  by_cases z : n ≤ r
  · rw [if_pos ((zrw_le hn hr).mpr z), if_pos z]
  · rw [if_neg (fun y => z ((zrw_le hn hr).mp y)), if_neg z]
theorem f228_25_lp {K n p S : Nat} {g0 : zS} {T : Nat → Nat} {k2 : Int32 → zS → Option (Int32 × zS)} (hK : 20 ≤ K) (I : zInv n g0) (hp : p ≤ 4) (b2 : g0 222 14 = nI p) (hS : S < 16) (hB : ∀ x, T x ≤ 100) : ∀ d q m r (g : zS), q + d = S + 1 → d < m → 0 < q → r ≤ 101 → zScr g0 g → (∀ x, x < S → g 238 x = zrw (T x)) → g 238 S = zrw r → ∃ g', f228_25 K k2 m (nI S) (nI q) g = k2 (nI (S + 1)) g' ∧ zScr g0 g' ∧ (∀ x, x < S → g' 238 x = zrw (T x)) ∧ g' 238 S = zrw (zRs (zZ g0 p) T S d q r) := by
  intro d
  induction d with
  | zero =>
    intro q m r g h1 h2 h3 h4 s hT hr
    obtain ⟨m, rfl⟩ : ∃ z, m = z + 1 := ⟨m - 1, by omega⟩
    refine ⟨g, ?_, s, hT, hr⟩
    rw [f228_25, if_pos (nI_lt (by omega) (by omega)), nI_1]
  | succ d ih =>
    intro q m r g h1 h2 h3 h4 s hT hr
    obtain ⟨m, rfl⟩ : ∃ z, m = z + 1 := ⟨m - 1, by omega⟩
    obtain ⟨z1, z2, z3, z4⟩ := sb16 S hS q (by omega)
    have hn := @zRn_le (zZ g0 p) T S q 100 hB
    have go : ∀ nn, nn = zRn (zZ g0 p) T S q → ∃ g', f228_82 K k2 (f228_25 K k2 m) (nI S) (nI q) (zrw nn) g = k2 (nI (S + 1)) g' ∧ zScr g0 g' ∧ (∀ x, x < S → g' 238 x = zrw (T x)) ∧ g' 238 S = zrw (zRs (zZ g0 p) T S (d + 1) q r) := by
      intro nn hnn
      rw [hnn, f228_82_eq hS (by omega) (by omega) hr, zRs_s]
      refine ih (q + 1) m _ _ (by omega) (by omega) (by omega) ?_ (zScr_up s (by unfold zKeep; omega)) (fun x hx => by rw [zup_k (by omega)]; exact hT x hx) (zup_s _ _ _ _)
      by_cases y : zRn (zZ g0 p) T S q ≤ r
      · rw [if_pos y]; exact h4
      · rw [if_neg y]; exact hn
    have none : zRn (zZ g0 p) T S q = 0 → ∃ g', f228_62 K k2 (f228_25 K k2 m) (nI S) (nI q) g = k2 (nI (S + 1)) g' ∧ zScr g0 g' ∧ (∀ x, x < S → g' 238 x = zrw (T x)) ∧ g' 238 S = zrw (zRs (zZ g0 p) T S (d + 1) q r) := by
      intro h0
      unfold f228_62 f228_63
      rw [if_pos rfl]
      exact go 0 h0.symm
    rw [f228_25, if_neg (nI_nlt (by omega) (by omega))]
    by_cases y1 : q &&& S = q
    · rw [if_neg (fun w => w (z1.mpr y1)), f229_eq hK I s hp b2 (by omega), zbd_s]
      by_cases y2 : zss (zN g0) q p = 0
      · have hx := z4 y1 h3
        rw [if_neg (fun w => w y2), z2, if_pos (zin_i z3 (by decide)), nI_clamp (show S ^^^ q < 2 ^ 31 by omega), hT _ hx]
        by_cases y3 : T (S ^^^ q) = 0
        · rw [if_pos ((zrw_n (by have := hB (S ^^^ q); omega)).mpr y3)]
          exact none (if_neg fun w => w.2.2 y3)
        · rw [if_neg (fun w => y3 ((zrw_n (by have := hB (S ^^^ q); omega)).mp w))]
          unfold f228_63
          rw [if_neg (show ¬ (1 : Int32) = 0 by decide), z2, if_pos (zin_i z3 (by decide)), nI_clamp (show S ^^^ q < 2 ^ 31 by omega), hT _ hx]
          have e : zrw (T (S ^^^ q)) + 1 = zrw (T (S ^^^ q) + 1) := by
            unfold zrw
            rw [if_neg y3, if_neg (by omega), nI_1, show T (S ^^^ q) - 1 + 1 = T (S ^^^ q) + 1 - 1 by omega]
          rw [e]
          exact go _ (if_pos ⟨y1, decide_eq_true y2, y3⟩).symm
      · rw [if_pos y2]
        exact none (if_neg fun w => y2 (of_decide_eq_true w.2.1))
    · rw [if_pos (fun w => y1 (z1.mp w))]
      exact none (if_neg fun w => y1 w.1)
def zbc (s : Nat) : Nat → Nat
  | 0 => 0
  | i + 1 => zbc s i + (s.testBit i).toNat
theorem zbc_s {s i : Nat} : zbc s (i + 1) = zbc s i + (s.testBit i).toNat := rfl
theorem f210_lp {K s : Nat} {g : zS} (hs : s < 2 ^ 31) : ∀ d i n, i + d = 8 → d < n → f210_4 K n (nI s) (nI (zbc s i)) (nI i) g = some (nI (zbc s 8), g) := by
  intro d
  induction d with
  | zero =>
    intro i n h1 h2
    obtain ⟨n, rfl⟩ : ∃ z, n = z + 1 := ⟨n - 1, by omega⟩
    rw [f210_4, show (8 : Int32) = nI 8 from rfl, if_pos (nI_le (by omega) (by omega)), show i = 8 by omega]
  | succ d ih =>
    intro i n h1 h2
    obtain ⟨n, rfl⟩ : ∃ z, n = z + 1 := ⟨n - 1, by omega⟩
    have := ih (i + 1) n (by omega) (by omega)
    rw [zbc_s] at this
    rw [f210_4, show (8 : Int32) = nI 8 from rfl, if_neg (nI_ge (by omega) (by omega)), nx_bit hs (by omega), nI_add, nI_1]
    exact this
theorem f210_eq {K s : Nat} {g : zS} (hK : 20 ≤ K) (hs : s < 2 ^ 31) : f210 K (nI s) g = some (nI (zbc s 8), g) := f210_lp hs 8 0 K (by omega) (by omega)
theorem f228_lp {K n p : Nat} {g0 : zS} (hK : 20 ≤ K) (I : zInv n g0) (hp : p ≤ 4) (b2 : g0 222 14 = nI p) : ∀ d k m (g : zS), k + d = 16 → d < m → zScr g0 g → (∀ x, x < k → g 238 x = zrw (zRt (zZ g0 p) k x)) → ∃ g', f228_2 K m (nI k) g = some (nI (zbc (2 ^ p - 1) 8) - zrw (zRt (zZ g0 p) 16 (2 ^ p - 1)), g') ∧ zScr g0 g' := by
  have hpp : 2 ^ p ≤ 16 := Nat.le_trans (Nat.pow_le_pow_right (by decide) hp) (by decide)
  have hp0 := Nat.two_pow_pos p
  intro d
  induction d with
  | zero =>
    intro k m g h1 h2 s hT
    obtain ⟨m, rfl⟩ : ∃ z, m = z + 1 := ⟨m - 1, by omega⟩
    refine ⟨g, ?_, s⟩
    have e : (1 : Int32) <<< (nI p &&& 31) - 1 = nI (2 ^ p - 1) := by
      rw [nx_one (by omega)]
      exact pk_sub (a := 2 ^ p) (b := 1) (by omega)
    rw [f228_2, show (16 : Int32) = nI 16 from rfl, if_pos (nI_le (by omega) (by omega)), zScr_222 s (by omega), b2, e, f210_eq hK (by omega), zbd_s, if_pos (zin_i (show 2 ^ p - 1 < 16 by omega) (by decide)), nI_clamp (show 2 ^ p - 1 < 2 ^ 31 by omega), hT _ (by omega), show k = 16 by omega]
  | succ d ih =>
    intro k m g h1 h2 s hT
    obtain ⟨m, rfl⟩ : ∃ z, m = z + 1 := ⟨m - 1, by omega⟩
    have e : f228_2 K (m + 1) (nI k) g = f228_25 K (f228_2 K m) K (nI k) (nI 1) (zup g 238 k (zrw (if k = 0 then 1 else 0))) := by
      rw [f228_2, show (16 : Int32) = nI 16 from rfl, if_neg (nI_ge (by omega) (by omega))]
      unfold f228_22
      rw [if_pos (zin_i (show k < 16 by omega) (by decide)), nI_clamp (show k < 2 ^ 31 by omega)]
      by_cases z : k = 0
      · rw [if_neg (fun w => w (by rw [z]; rfl)), if_pos z, if_pos (zin_i (show k < 16 by omega) (by decide))]
        rfl
      · rw [if_pos (nI_ne0 (by omega) (by omega)), if_neg z]
        rfl
    obtain ⟨g1, e1, e2, e3, e4⟩ := f228_25_lp (K := K) (S := k) (T := zRt (zZ g0 p) k) (k2 := f228_2 K m) hK I hp b2 (by omega) (fun x => Nat.le_trans zRt_le (by omega)) k 1 K (if k = 0 then 1 else 0) (zup g 238 k (zrw (if k = 0 then 1 else 0))) (by omega) (by omega) (by omega) (by split <;> omega) (zScr_up s (by unfold zKeep; omega)) (fun x hx => by rw [zup_k (by omega)]; exact hT x hx) (zup_s _ _ _ _)
    obtain ⟨g2, e5, e6⟩ := ih (k + 1) m g1 (by omega) (by omega) e2 (fun x hx => by
      rw [zRt_s]
      by_cases z : x = k
      · rw [if_pos z, z, e4]
      · rw [if_neg z]
        exact e3 x (by omega))
    exact ⟨g2, by rw [e, e1, e5], e6⟩
