-- ===== the reference: an order by its number =====
theorem f203_lp {K m : Nat} {g : zS} (hm : m ≤ 6) : ∀ d i q, i + d = m + 1 → d < q → 1 ≤ i → f203_4 K q (nI m) (nI (zfc (i - 1))) (nI i) g = some (nI (zfc m), g) := by
  intro d
  induction d with
  | zero =>
    intro i q h1 h2 h3
    obtain ⟨q, rfl⟩ : ∃ z, q = z + 1 := ⟨q - 1, by omega⟩
    rw [f203_4, if_pos (nI_lt (by omega) (by omega)), show i - 1 = m by omega]
  | succ d ih =>
    intro i q h1 h2 h3
    obtain ⟨q, rfl⟩ : ∃ z, q = z + 1 := ⟨q - 1, by omega⟩
    have e : zfc (i - 1) * i = zfc (i + 1 - 1) := by
      obtain ⟨j, rfl⟩ : ∃ j, i = j + 1 := ⟨i - 1, by omega⟩
      rw [Nat.add_sub_cancel, Nat.add_sub_cancel, zfc, Nat.mul_comm]
    rw [f203_4, if_neg (nI_nlt (by omega) (by omega)), nI_mu, e, nI_1]
    exact ih (i + 1) q (by omega) (by omega) (by omega)
theorem f203_eq {K m : Nat} {g : zS} (hK : 20 ≤ K) (hm : m ≤ 6) : f203 K (nI m) g = some (nI (zfc m), g) := by
  unfold f203
  by_cases q : m = 0
  · subst q
    obtain ⟨q, hq⟩ : ∃ q, K = q + 1 := ⟨K - 1, by omega⟩
    have : ∀ q, f203_4 K (q + 1) (nI 0) 1 2 g = some (nI (zfc 0), g) := fun q => by
      rw [f203_4, if_pos (show nI 0 < (2 : Int32) by decide)]
      rfl
    have w := this q
    rw [← hq] at w
    exact w
  · exact f203_lp hm (m - 1) 2 K (by omega) (by omega) (by omega)
theorem zmk_eq : ∀ a, a < 64 → ∀ r, r < 8 → nI a &&& (((1 : Int32) <<< (nI r &&& 31)) ^^^ (-1)) = nI (a &&& (255 ^^^ 2 ^ r)) := by decide +kernel
theorem f204_54_lp {K a k : Nat} {k23 : Int32 → Int32 → Int32 → Int32 → zS → Option (Unit × zS)} {x2 x3 : Int32} {g : zS} (ha : a < 64) (hk : k < 8) : ∀ f q d i, i + f = 8 → f < q → d < 2 ^ 31 → zpk a f d i < 8 → f204_54 K k23 q x2 x3 (nI a) (nI k) (nI d) (nI i) g = k23 x2 x3 (nI (a &&& (255 ^^^ 2 ^ zpk a f d i))) (nI (k + 1)) (zup g 235 k (g 232 (zpk a f d i))) := by
  intro f
  induction f with
  | zero =>
    intro q d i h1 h2 h3 h4
    rw [zpk] at h4
    omega
  | succ f ih =>
    intro q d i h1 h2 h3 h4
    obtain ⟨q, rfl⟩ : ∃ z, q = z + 1 := ⟨q - 1, by omega⟩
    rw [f204_54, f177_eq (by omega) (by omega), zbd_s]
    unfold f204_69
    rw [nx_bit (by omega) (by omega)]
    rw [zpk] at h4 ⊢
    cases hb : a.testBit i with
    | false =>
      rw [hb, if_neg (show ¬ false = true by decide)] at h4
      rw [if_pos (show nI false.toNat = 0 by decide), if_neg (show ¬ false = true by decide), nI_1, show nI d - nI false.toNat = nI d from pk_sub (a := d) (b := 0) (by omega)]
      exact ih q d (i + 1) (by omega) (by omega) h3 h4
    | true =>
      rw [hb, if_pos (show true = true from rfl)] at h4
      rw [if_neg (show ¬ nI true.toNat = 0 by decide), if_pos (show true = true from rfl)]
      by_cases q0 : d = 0
      · rw [if_pos (show nI d ≤ (0 : Int32) from nI_le (b := 0) (by omega) (by omega)), if_pos (zin_i (show i < 8 by omega) (by decide)), if_pos (zin_i hk (by decide)), if_pos q0, nI_clamp (show i < 2 ^ 31 by omega), nI_clamp (show k < 2 ^ 31 by omega), nI_1, zmk_eq a ha i (by omega)]
      · rw [if_neg q0] at h4
        rw [if_neg (show ¬ nI d ≤ (0 : Int32) from nI_ge (a := 0) (by omega) h3), if_neg q0, nI_1, show nI d - nI true.toNat = nI (d - 1) from pk_sub (a := d) (b := 1) (by omega)]
        exact ih q (d - 1) (i + 1) (by omega) (by omega) (by omega) h4
theorem f204_23_lp {K m : Nat} (hK : 20 ≤ K) (hm : m ≤ 6) : ∀ n q k v a (g : zS), k + n = m → n < q → v < zfc n → a < 64 → (∀ r, r ∈ zOrd n v a → r < 8) → g 222 18 = nI m → ∃ g', f204_23 K q (nI (zfc n)) (nI v) (nI a) (nI k) g = some ((), g') ∧ g' 222 29 = nI m ∧ (∀ j, j < k → g' 235 j = g 235 j) ∧ (∀ j, j < n → g' 235 (k + j) = g 232 ((zOrd n v a).getD j 0)) ∧ (∀ c, c ≠ 235 → c ≠ 222 → g' c = g c) ∧ ∀ i, i ≠ 29 → g' 222 i = g 222 i := by
  intro n
  induction n with
  | zero =>
    intro q k v a g h1 h2 h3 h4 h5 h6
    obtain ⟨q, rfl⟩ : ∃ z, q = z + 1 := ⟨q - 1, by omega⟩
    rw [f204_23, h6, if_pos (nI_le (by omega) (by omega))]
    exact ⟨_, rfl, zup_s _ _ _ _, fun j _ => by rw [zup_c (by decide)], fun j hj => by omega, fun c c1 c2 => zup_c c2, fun i hi => zup_k hi⟩
  | succ n ih =>
    intro q k v a g h1 h2 h3 h4 h5 h6
    obtain ⟨q, rfl⟩ : ∃ z, q = z + 1 := ⟨q - 1, by omega⟩
    obtain ⟨z1, z2⟩ := zfc_720 n (by omega)
    obtain ⟨z3, z4⟩ := zfc_720 (n + 1) (by omega)
    have ez : zfc (n + 1) = (n + 1) * zfc n := rfl
    have d1 : nI (zfc (n + 1)) / nI (n + 1) = nI (zfc n) := by
      rw [show nI (zfc (n + 1)) / nI (n + 1) = nI (zfc (n + 1) / (n + 1)) from pk_div (by omega) (by omega) (by omega), ez, Nat.mul_div_cancel_left _ (by omega)]
    have d2 : nI v / nI (zfc n) = nI (v / zfc n) := pk_div (by omega) (by omega) (by omega)
    have d3 : nI v - nI (v / zfc n) * nI (zfc n) = nI (v % zfc n) := by
      have := Nat.div_add_mod v (zfc n)
      rw [Nat.mul_comm] at this
      rw [nI_mu, pk_sub (by omega)]
      exact congrArg nI (by omega)
    rw [zOrd] at h5
    have p8 : zpk a 8 (v / zfc n) 0 < 8 := h5 _ (List.mem_cons_self)
    generalize hp : zpk a 8 (v / zfc n) 0 = p at h5 p8
    have nz : ¬ nI (zfc n) = 0 := fun z => by have := (nI_eq (b := 0) (by omega) (by omega)).mp z; omega
    have nn : ¬ nI (n + 1) = 0 := fun z => by have := (nI_eq (b := 0) (by omega) (by omega)).mp z; omega
    have vd : v / zfc n ≤ v := Nat.div_le_self _ _
    obtain ⟨g', a1, a2, a3, a4, a5, a6⟩ := ih q (k + 1) (v % zfc n) (a &&& (255 ^^^ 2 ^ p)) (zup g 235 k (g 232 p)) (by omega) (by omega) (Nat.mod_lt _ z2) (Nat.lt_of_le_of_lt Nat.and_le_left h4) (fun r hr => h5 r (List.mem_cons_of_mem _ hr)) (by rw [zup_c (by decide)]; exact h6)
    rw [f204_23, h6, if_neg (nI_ge (by omega) (by omega)), show nI m - nI k = nI (n + 1) by rw [pk_sub (by omega), show m - k = n + 1 by omega], if_pos nn, d1, if_pos nz, if_pos nz, d2, d3, show f204_54 K (f204_23 K q) K (nI (zfc n)) (nI (v % zfc n)) (nI a) (nI k) (nI (v / zfc n)) 0 g = _ from f204_54_lp (k23 := f204_23 K q) h4 (by omega) 8 K (v / zfc n) 0 (by omega) (by omega) (by omega) (by rw [hp]; exact p8), hp, a1]
    refine ⟨g', rfl, a2, fun j hj => by rw [a3 j (by omega), zup_k (by omega)], fun j hj => ?_, fun c c1 c2 => by rw [a5 c c1 c2, zup_c c1], fun i hi => by rw [a6 i hi, zup_c (by decide)]⟩
    rw [zOrd, hp]
    cases j with
    | zero =>
      rw [Nat.add_zero, a3 k (by omega), zup_s]
      rfl
    | succ j =>
      have := a4 j (by omega)
      rw [zup_c (by decide)] at this
      rw [show k + (j + 1) = k + 1 + j by omega, this]
      rfl
theorem zOrd_lt {m v r : Nat} (hm : m ≤ 6) (hv : v < zfc m) (h : r ∈ zOrd m v (2 ^ m - 1)) : r < m := by
  obtain ⟨k, h1, h2, h3⟩ := zsg_mem _ _ _ ((zOrd_perm hm hv).mem_iff.mp h)
  rw [h3]
  show k < m
  omega
theorem zgd_mem : ∀ (l : List Nat) j, j < l.length → l.getD j 0 ∈ l := by
  intro l
  induction l with
  | nil => intro j h; exact absurd h (Nat.not_lt_zero _)
  | cons a l ih =>
    intro j h
    cases j with
    | zero => exact List.mem_cons_self
    | succ j => exact List.mem_cons_of_mem _ (ih j (by rw [List.length_cons] at h; omega))
theorem zgd_map {u : Nat → Nat} : ∀ (l : List Nat) j, j < l.length → (l.map u).getD j 0 = u (l.getD j 0) := by
  intro l
  induction l with
  | nil => intro j h; exact absurd h (Nat.not_lt_zero _)
  | cons a l ih =>
    intro j h
    cases j with
    | zero => rfl
    | succ j => exact ih j (by rw [List.length_cons] at h; omega)
/-- the v-th order of the words u -/
def zRw (m : Nat) (u : Nat → Nat) (v : Nat) : List Nat := (zOrd m v (2 ^ m - 1)).map u
theorem f204_sp {K m v : Nat} {u : Nat → Nat} {g : zS} (hK : 20 ≤ K) (hm : m ≤ 6) (hv : v < zfc m) (h18 : g 222 18 = nI m) (hu : ∀ i, i < m → g 232 i = nI (u i)) : ∃ g', f204 K (nI v) g = some ((), g') ∧ g' 222 29 = nI m ∧ (∀ j, j < m → g' 235 j = nI ((zRw m u v).getD j 0)) ∧ (∀ c, c ≠ 235 → c ≠ 222 → g' c = g c) ∧ ∀ i, i ≠ 29 → g' 222 i = g 222 i := by
  have p64 : 2 ^ m ≤ 2 ^ 6 := Nat.pow_le_pow_right (by decide) hm
  have pp : 0 < 2 ^ m := Nat.pow_pos (by decide)
  obtain ⟨g', a1, a2, -, a4, a5, a6⟩ := f204_23_lp hK hm m K 0 v (2 ^ m - 1) g (by omega) (by omega) hv (by omega) (fun r hr => by have := zOrd_lt hm hv hr; omega) h18
  have hl : (zOrd m v (2 ^ m - 1)).length = m := by rw [(zOrd_perm hm hv).length_eq, zsg_len]
  refine ⟨g', ?_, a2, fun j hj => ?_, a5, a6⟩
  · unfold f204
    rw [h18, f203_eq hK hm, zbd_s, h18, nx_one (by omega), show nI (2 ^ m) - 1 = nI (2 ^ m - 1) from pk_sub (a := 2 ^ m) (b := 1) (by omega)]
    exact a1
  · have := a4 j hj
    rw [Nat.zero_add] at this
    unfold zRw
    rw [this, zgd_map _ _ (by omega), hu _ (zOrd_lt hm hv (zgd_mem _ _ (by omega)))]
-- ===== the reference: earlier by words =====
theorem f206_lp {K m : Nat} {b c : Nat → Nat} {g : zS} (hm : m ≤ 8) (h29 : g 222 29 = nI m) (hc : ∀ i, i < m → c i ≤ 9 ∧ g 235 i = nI (c i)) (hb : ∀ i, i < m → b i ≤ 9 ∧ g 237 i = nI (b i)) : ∀ d i q, i + d = m → d < q → f206_2 K q (nI i) g = some (if zwl (zsg c i d) (zsg b i d) = true then 1 else 0, g) := by
  intro d
  induction d with
  | zero =>
    intro i q h1 h2
    obtain ⟨q, rfl⟩ : ∃ z, q = z + 1 := ⟨q - 1, by omega⟩
    rw [f206_2, h29, if_pos (nI_le (by omega) (by omega))]
    unfold f206_31
    rw [h29, if_pos (nI_le (by omega) (by omega)), if_neg (show ¬ zwl (zsg c i 0) (zsg b i 0) = true from fun z => Bool.false_ne_true z)]
  | succ d ih =>
    intro i q h1 h2
    obtain ⟨q, rfl⟩ : ∃ z, q = z + 1 := ⟨q - 1, by omega⟩
    obtain ⟨c1, c2⟩ := hc i (by omega)
    obtain ⟨b1, b2⟩ := hb i (by omega)
    rw [f206_2, h29, if_neg (nI_ge (by omega) (by omega)), if_pos (zin_i (show i < 8 by omega) (by decide)), if_pos (zin_i (show i < 8 by omega) (by decide)), nI_clamp (show i < 2 ^ 31 by omega), c2, b2, zsg, zsg]
    by_cases q1 : c i = b i
    · rw [if_neg (show ¬ ¬ nI (c i) = nI (b i) from fun z => z (by rw [q1])), nI_1, ih (i + 1) q (by omega) (by omega)]
      by_cases q2 : zwl (zsg c (i + 1) d) (zsg b (i + 1) d) = true
      · rw [if_pos q2, if_pos (zwl_c.mpr (Or.inr ⟨q1, q2⟩))]
      · rw [if_neg q2, if_neg (fun z => by rcases zwl_c.mp z with z | z; omega; exact q2 z.2)]
    · rw [if_pos (show ¬ nI (c i) = nI (b i) from fun z => q1 ((nI_eq (by omega) (by omega)).mp z))]
      unfold f206_31
      rw [h29, if_neg (nI_ge (by omega) (by omega)), if_pos (zin_i (show i < 8 by omega) (by decide)), if_pos (zin_i (show i < 8 by omega) (by decide)), nI_clamp (show i < 2 ^ 31 by omega), c2, b2]
      by_cases q2 : b i ≤ c i
      · rw [if_pos (nI_le q2 (by omega)), if_neg (fun z => by rcases zwl_c.mp z with z | z; omega; exact q1 z.1)]
      · rw [if_neg (nI_ge (by omega) (by omega)), if_pos (zwl_c.mpr (Or.inl (by omega)))]
-- ===== the reference: the best is kept =====
theorem f202_113_eq {K : Nat} {k : Int32 → zS → Option (Unit × zS)} {x1 x2 x3 : Int32} {g : zS} : f202_113 K k x1 x2 x3 g = k (x1 + 1) (zup (zup g 222 32 (if x3 = 0 then g 222 32 else x2)) 222 33 (if x2 ≤ g 222 33 then g 222 33 else x2)) := by
  unfold f202_113 f202_126 f202_146 f202_149
  by_cases q : x3 = 0
  · rw [if_pos q, if_pos q, zup_k (by decide)]
    by_cases q2 : x2 ≤ g 222 33
    · rw [if_pos q2, if_pos q2]
    · rw [if_neg q2, if_neg q2]
  · rw [if_neg q, if_neg q, zup_k (by decide)]
    by_cases q2 : x2 ≤ g 222 33
    · rw [if_pos q2, if_pos q2]
    · rw [if_neg q2, if_neg q2]
theorem f202_80_lp {K m : Nat} {k : Int32 → zS → Option (Unit × zS)} {x1 x2 : Int32} (hm : m ≤ 8) : ∀ d i q (g : zS), i + d = m → d < q → g 222 29 = nI m → ∃ g', f202_80 K k q x1 x2 1 (nI i) g = f202_113 K k x1 x2 1 g' ∧ (∀ j, i ≤ j → j < m → g' 237 j = g 235 j) ∧ (∀ j, j < i → g' 237 j = g 237 j) ∧ ∀ c, c ≠ 237 → g' c = g c := by
  intro d
  induction d with
  | zero =>
    intro i q g h1 h2 h3
    obtain ⟨q, rfl⟩ : ∃ z, q = z + 1 := ⟨q - 1, by omega⟩
    rw [f202_80, h3, if_pos (nI_le (by omega) (by omega))]
    exact ⟨g, rfl, fun j _ _ => by omega, fun j _ => rfl, fun c _ => rfl⟩
  | succ d ih =>
    intro i q g h1 h2 h3
    obtain ⟨q, rfl⟩ : ∃ z, q = z + 1 := ⟨q - 1, by omega⟩
    obtain ⟨g', a1, a2, a3, a4⟩ := ih (i + 1) q (zup g 237 i (g 235 i)) (by omega) (by omega) (by rw [zup_c (by decide)]; exact h3)
    rw [f202_80, h3, if_neg (nI_ge (by omega) (by omega)), if_neg (show ¬ (1 : Int32) = 0 by decide), if_pos (zin_i (show i < 8 by omega) (by decide)), if_pos (zin_i (show i < 8 by omega) (by decide)), nI_clamp (show i < 2 ^ 31 by omega), nI_1, a1]
    refine ⟨g', rfl, fun j h4 h5 => ?_, fun j hj => by rw [a3 j (by omega), zup_k (by omega)], fun c hc => by rw [a4 c hc, zup_c hc]⟩
    by_cases q1 : j = i
    · rw [q1, a3 i (by omega), zup_s]
    · rw [a2 j (by omega) h5, zup_c (by decide)]
theorem f202_71_sp {K m : Nat} {k : Int32 → zS → Option (Unit × zS)} {x1 x2 : Int32} {g : zS} (hK : 20 ≤ K) (hm : m ≤ 8) (h : g 222 29 = nI m) : ∃ g', f202_71 K k x1 x2 g = k (x1 + 1) g' ∧ g' 222 32 = x2 ∧ g' 222 33 = (if x2 ≤ g 222 33 then g 222 33 else x2) ∧ (∀ j, j < m → g' 237 j = g 235 j) ∧ (∀ c, c ≠ 237 → c ≠ 222 → g' c = g c) ∧ ∀ i, i ≠ 32 → i ≠ 33 → g' 222 i = g 222 i := by
  obtain ⟨g', a1, a2, -, a4⟩ := f202_80_lp (K := K) (k := k) (x1 := x1) (x2 := x2) hm m 0 K g (by omega) (by omega) h
  unfold f202_71 f202_76
  rw [show f202_80 K k K x1 x2 1 0 g = f202_113 K k x1 x2 1 g' from a1, f202_113_eq, if_neg (show ¬ (1 : Int32) = 0 by decide), a4 222 (by decide)]
  exact ⟨_, rfl, by rw [zup_k (by decide), zup_s], zup_s _ _ _ _, fun j hj => by rw [zup_c (by decide), zup_c (by decide)]; exact a2 j (Nat.zero_le _) hj, fun c c1 c2 => by rw [zup_c c2, zup_c c2, a4 c c1], fun i i1 i2 => by rw [zup_k i2, zup_k i1, a4 222 (by decide)]⟩
theorem f202_75_sp {K : Nat} {k : Int32 → zS → Option (Unit × zS)} {x1 x2 : Int32} {g : zS} (hK : 20 ≤ K) : ∃ g', f202_75 K k x1 x2 g = k (x1 + 1) g' ∧ g' 222 32 = g 222 32 ∧ g' 222 33 = (if x2 ≤ g 222 33 then g 222 33 else x2) ∧ (∀ c, c ≠ 222 → g' c = g c) ∧ ∀ i, i ≠ 32 → i ≠ 33 → g' 222 i = g 222 i := by
  obtain ⟨q, hq⟩ : ∃ q, K = q + 1 := ⟨K - 1, by omega⟩
  have e : ∀ q, f202_80 K k (q + 1) x1 x2 0 0 g = f202_113 K k x1 x2 0 g := fun q => by
    rw [f202_80]
    by_cases z : g 222 29 ≤ 0
    · rw [if_pos z]
    · rw [if_neg z, if_pos (show (0 : Int32) = 0 from rfl)]
  have w := e q
  rw [← hq] at w
  unfold f202_75 f202_76
  rw [w, f202_113_eq, if_pos (show (0 : Int32) = 0 from rfl)]
  exact ⟨_, rfl, by rw [zup_k (by decide), zup_s], zup_s _ _ _ _, fun c c2 => by rw [zup_c c2, zup_c c2], fun i i1 i2 => by rw [zup_k i2, zup_k i1]⟩
