-- ===== sums: owes, net, one, word, count =====
theorem nI_mu (a b : Nat) : nI a * nI b = nI (a * b) := (Int32.ofNat_mul a b).symm
/-- a sum from i, d long, on top of a -/
def zfo (F : Nat → Int32) : Nat → Nat → Int32 → Int32
  | 0, _, a => a
  | d + 1, i, a => zfo F d (i + 1) (a + F i)
theorem zfo_congr {F G : Nat → Int32} : ∀ {d i : Nat} {a : Int32}, (∀ j, i ≤ j → j < i + d → F j = G j) → zfo F d i a = zfo G d i a := by
  intro d
  induction d with
  | zero => intro i a _; rfl
  | succ d ih =>
    intro i a h
    unfold zfo
    rw [h i (by omega) (by omega)]
    exact ih fun j h1 h2 => h j (by omega) (by omega)
theorem zfo_zero {F : Nat → Int32} : ∀ {d i : Nat} {a : Int32}, (∀ j, i ≤ j → j < i + d → F j = 0) → zfo F d i a = a := by
  intro d
  induction d with
  | zero => intro i a _; rfl
  | succ d ih =>
    intro i a h
    unfold zfo
    rw [h i (by omega) (by omega), Int32.add_zero]
    exact ih fun j h1 h2 => h j (by omega) (by omega)
theorem zfo_add {F : Nat → Int32} {e : Nat} : ∀ {d i : Nat} {a : Int32}, zfo F (d + e) i a = zfo F e (i + d) (zfo F d i a) := by
  intro d
  induction d with
  | zero => intro i a; rw [Nat.zero_add]; rfl
  | succ d ih =>
    intro i a
    rw [show d + 1 + e = (d + e) + 1 by omega]
    show zfo F (d + e) (i + 1) (a + F i) = zfo F e (i + (d + 1)) (zfo F d (i + 1) (a + F i))
    rw [ih, show i + (d + 1) = i + 1 + d by omega]
/-- the whole of four is the sum over p, where the rest is 0 -/
theorem zfo_cut {F : Nat → Int32} {p : Nat} {a : Int32} (hp : p ≤ 4) (h : ∀ j, p ≤ j → j < 4 → F j = 0) : zfo F 4 0 a = zfo F p 0 a := by
  rw [show (4 : Nat) = p + (4 - p) by omega, zfo_add]
  exact zfo_zero fun j h1 h2 => h j (by omega) (by omega)
theorem f143_lp {K o N : Nat} {g : zS} (hz : zlen (o + 1) = N) (hN : N < 2 ^ 31) : ∀ d i n a, i + d = N → d < n → f143_4 K n o a (nI i) g = some (zfo (g (o + 1)) d i a, g) := by
  intro d
  induction d with
  | zero =>
    intro i n a h1 h2
    obtain ⟨n, rfl⟩ : ∃ q, n = q + 1 := ⟨n - 1, by omega⟩
    unfold f143_4
    rw [hz, if_pos (nI_le (by omega) (by omega))]
    rfl
  | succ d ih =>
    intro i n a h1 h2
    obtain ⟨n, rfl⟩ : ∃ q, n = q + 1 := ⟨n - 1, by omega⟩
    unfold f143_4
    rw [hz, if_neg (nI_ge (by omega) hN), if_pos (zin_i (by omega) hN), nI_clamp (by omega), nI_1, ih (i + 1) n _ (by omega) (by omega)]
    rfl
theorem f139_lp {K o a : Nat} {g : zS} (hz : zlen (o + 12) = 16) (ha : a < 4) : ∀ d i n x, i + d = 4 → d < n → f139_4 K n o (nI a) x (nI i) g = some (zfo (fun i => g (o + 12) (i * 4 + a) - g (o + 12) (a * 4 + i)) d i x, g) := by
  intro d
  induction d with
  | zero =>
    intro i n x h1 h2
    obtain ⟨n, rfl⟩ : ∃ q, n = q + 1 := ⟨n - 1, by omega⟩
    unfold f139_4
    rw [show (4 : Int32) = nI 4 from rfl, if_pos (nI_le (by omega) (by omega))]
    rfl
  | succ d ih =>
    intro i n x h1 h2
    obtain ⟨n, rfl⟩ : ∃ q, n = q + 1 := ⟨n - 1, by omega⟩
    unfold f139_4 f90
    rw [show (4 : Int32) = nI 4 from rfl, if_neg (nI_ge (by omega) (by omega)), nI_mu, nI_add, f21_eq (by rw [hz]; omega) (by rw [hz]; decide), zbd_s, zbd_s, nI_mu, nI_add, f21_eq (by rw [hz]; omega) (by rw [hz]; decide), zbd_s, zbd_s, nI_1, ih (i + 1) n _ (by omega) (by omega)]
    rfl
theorem f227_lp {K a : Nat} {g : zS} (ha : a < 4) : ∀ d i n x, i + d = 4 → d < n → f227_4 K n (nI a) x (nI i) g = some (zfo (fun i => g 223 (57 + 4 * i + a) - g 223 (57 + 4 * a + i)) d i x, g) := by
  intro d
  induction d with
  | zero =>
    intro i n x h1 h2
    obtain ⟨n, rfl⟩ : ∃ q, n = q + 1 := ⟨n - 1, by omega⟩
    unfold f227_4
    rw [show (4 : Int32) = nI 4 from rfl, if_pos (nI_le (by omega) (by omega))]
    rfl
  | succ d ih =>
    intro i n x h1 h2
    obtain ⟨n, rfl⟩ : ∃ q, n = q + 1 := ⟨n - 1, by omega⟩
    unfold f227_4
    rw [show (4 : Int32) = nI 4 from rfl, if_neg (nI_ge (by omega) (by omega)), show (57 : Int32) = nI 57 from rfl, nI_mu, nI_mu, nI_add, nI_add, nI_add, nI_add, if_pos (zin_i (by omega) (by decide)), if_pos (zin_i (by omega) (by decide)), nI_clamp (by omega), nI_clamp (by omega), nI_1, ih (i + 1) n _ (by omega) (by omega)]
    rfl
/-- are x and y two of c -/
def zwt (x y c : Int32) : Int32 := if zwi x 0 (c - 1) = 0 then 0 else if zwi y 0 (c - 1) = 0 then 0 else if x = y then 0 else 1
theorem f88_eq (K : Nat) (x y : Int32) (g : zS) : f88 K x y g = some (zwt x y (g 4 1), g) := by
  unfold f88 zwt
  rw [f53_eq, zbd_s]
  by_cases h : zwi x 0 (g 4 1 - 1) = 0
  · rw [if_pos h, if_pos h]
  · rw [if_neg h, if_neg h, f53_eq, zbd_s]
    by_cases h2 : zwi y 0 (g 4 1 - 1) = 0
    · rw [if_pos h2, if_pos h2]
    · rw [if_neg h2, if_neg h2]
      by_cases h3 : x = y
      · rw [if_pos h3, if_pos h3]
      · rw [if_neg h3, if_neg h3]
theorem f194_eq (K : Nat) (x y : Int32) (g : zS) : f194 K x y g = some (zwt x y (g 222 14), g) := by
  unfold f194 zwt
  rw [f170_eq, zbd_s]
  by_cases h : zwi x 0 (g 222 14 - 1) = 0
  · rw [if_pos h, if_pos h]
  · rw [if_neg h, if_neg h, f170_eq, zbd_s]
    by_cases h2 : zwi y 0 (g 222 14 - 1) = 0
    · rw [if_pos h2, if_pos h2]
    · rw [if_neg h2, if_neg h2]
      by_cases h3 : x = y
      · rw [if_pos h3, if_pos h3]
      · rw [if_neg h3, if_neg h3]
theorem zwt_of {x y : Int32} {p : Nat} (hp : p < 2 ^ 31) (h : ¬ zwt x y (nI p) = 0) : ∃ a b : Nat, a < p ∧ b < p ∧ a ≠ b ∧ x = nI a ∧ y = nI b := by
  unfold zwt at h
  by_cases h1 : zwi x 0 (nI p - 1) = 0
  · rw [if_pos h1] at h; exact absurd rfl h
  rw [if_neg h1] at h
  by_cases h2 : zwi y 0 (nI p - 1) = 0
  · rw [if_pos h2] at h; exact absurd rfl h
  rw [if_neg h2] at h
  by_cases h3 : x = y
  · rw [if_pos h3] at h; exact absurd rfl h
  obtain ⟨a, a1, rfl⟩ := zwi_cnt hp h1
  obtain ⟨b, b1, rfl⟩ := zwi_cnt hp h2
  exact ⟨a, b, a1, b1, fun q => h3 (by rw [q]), rfl, rfl⟩
theorem zp_owes (K n : Nat) (x y : Int32) : zPair (zInv n) (zInv (n + 1)) (f92 K x y) (f196 K x y) := by
  intro g h
  have I := zInv_mono n g h
  obtain ⟨w, p, c, r, l, b0, ⟨-, b1, -⟩, ⟨-, b2, -⟩, -⟩ := I.2.1
  obtain ⟨-, -, -, -, s5, -⟩ := I.2.2.1
  by_cases hw : zwt x y (nI p) = 0
  · refine ⟨-2, g, g, ?_, ?_, I⟩
    · unfold f92
      rw [f88_eq, zbd_s, b1, if_pos hw]
    · unfold f196
      rw [f194_eq, zbd_s, b2, if_pos hw]
  · obtain ⟨a, b, a1, a2, -, rfl, rfl⟩ := zwt_of (by omega) hw
    refine ⟨g 46 (a * 4 + b), g, g, ?_, ?_, I⟩
    · unfold f92 f90
      rw [f88_eq, zbd_s, b1, if_neg hw, show (4 : Int32) = nI 4 from rfl, nI_mu, nI_add, f21_eq (by exact (show a * 4 + b < 16 by omega)) (by decide)]
      rfl
    · unfold f196
      rw [f194_eq, zbd_s, b2, if_neg hw, show (4 : Int32) = nI 4 from rfl, show (57 : Int32) = nI 57 from rfl, nI_mu, nI_add, nI_add, if_pos (zin_i (by omega) (by decide)), nI_clamp (by omega), (s5 (a * 4 + b) (by omega)).1, show 0 + 57 + (a * 4 + b) = 57 + 4 * a + b by omega]
theorem zp_net {K : Nat} (hK : 5 ≤ K) (n : Nat) (x : Int32) : zPair (zInv n) (zInv (n + 1)) (f138 K x) (f226 K x) := by
  intro g h
  have I := zInv_mono n g h
  obtain ⟨w, p, c, r, l, b0, ⟨-, b1, -⟩, ⟨-, b2, -⟩, -⟩ := I.2.1
  obtain ⟨-, -, -, -, s5, -⟩ := I.2.2.1
  by_cases hw : zwi x 0 (nI p - 1) = 0
  · refine ⟨-2, g, g, ?_, ?_, I⟩
    · unfold f138
      rw [f53_eq, zbd_s, b1, if_pos hw]
    · unfold f226
      rw [f170_eq, zbd_s, b2, if_pos hw]
  · obtain ⟨a, a1, rfl⟩ := zwi_cnt (by omega) hw
    refine ⟨zfo (fun i => g (34 + 12) (i * 4 + a) - g (34 + 12) (a * 4 + i)) 4 0 0 + 9999, g, g, ?_, ?_, I⟩
    · unfold f138 f139
      rw [f53_eq, zbd_s, b1, if_neg hw, show (0 : Int32) = nI 0 from rfl, f139_lp (by decide) (by omega) 4 0 K _ (by omega) (by omega), zbd_s]
    · unfold f226 f227
      rw [f170_eq, zbd_s, b2, if_neg hw, show (0 : Int32) = nI 0 from rfl, f227_lp (by omega) 4 0 K _ (by omega) (by omega), zbd_s, Int32.add_comm]
      refine congrArg (fun q => some (q + 9999, g)) (zfo_congr fun j _ hj => ?_)
      have e1 := (s5 (j * 4 + a) (by omega)).1
      have e2 := (s5 (a * 4 + j) (by omega)).1
      show g 223 (57 + 4 * j + a) - g 223 (57 + 4 * a + j) = g (34 + 12) (j * 4 + a) - g (34 + 12) (a * 4 + j)
      rw [e1, e2, show 0 + 57 + (j * 4 + a) = 57 + 4 * j + a by omega, show 0 + 57 + (a * 4 + j) = 57 + 4 * a + j by omega]
