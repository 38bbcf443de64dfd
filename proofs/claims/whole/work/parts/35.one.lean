-- ===== one, word, count =====
theorem f55_lp {K o a : Nat} {g : zS} (hz : zlen (o + 10) = 40) (ha : a < 4) : ∀ d i n x, i + d = 10 → d < n → f55_4 K n o (nI a) x (nI i) g = some (zfo (fun i => g (o + 10) (a * 10 + i)) d i x, g) := by
  intro d
  induction d with
  | zero =>
    intro i n x h1 h2
    obtain ⟨n, rfl⟩ : ∃ q, n = q + 1 := ⟨n - 1, by omega⟩
    unfold f55_4
    rw [show (10 : Int32) = nI 10 from rfl, if_pos (nI_le (by omega) (by omega))]
    rfl
  | succ d ih =>
    intro i n x h1 h2
    obtain ⟨n, rfl⟩ : ∃ q, n = q + 1 := ⟨n - 1, by omega⟩
    unfold f55_4 f51
    rw [show (10 : Int32) = nI 10 from rfl, if_neg (nI_ge (by omega) (by omega)), nI_mu, nI_add, f21_eq (by rw [hz]; omega) (by rw [hz]; decide), zbd_s, zbd_s, nI_1, ih (i + 1) n _ (by omega) (by omega)]
    rfl
theorem f171_lp {K a : Nat} {g : zS} (ha : a < 4) : ∀ d i n x, i + d = 10 → d < n → f171_4 K n (nI a) x (nI i) g = some (zfo (fun i => g 223 (17 + 10 * a + i)) d i x, g) := by
  intro d
  induction d with
  | zero =>
    intro i n x h1 h2
    obtain ⟨n, rfl⟩ : ∃ q, n = q + 1 := ⟨n - 1, by omega⟩
    unfold f171_4
    rw [show (10 : Int32) = nI 10 from rfl, if_pos (nI_le (by omega) (by omega))]
    rfl
  | succ d ih =>
    intro i n x h1 h2
    obtain ⟨n, rfl⟩ : ∃ q, n = q + 1 := ⟨n - 1, by omega⟩
    unfold f171_4
    rw [show (10 : Int32) = nI 10 from rfl, show (17 : Int32) = nI 17 from rfl, if_neg (nI_ge (by omega) (by omega)), nI_mu, nI_add, nI_add, if_pos (zin_i (by omega) (by decide)), nI_clamp (by omega), nI_1, ih (i + 1) n _ (by omega) (by omega)]
    rfl
theorem f50_lp {K o a : Nat} {g : zS} (hz : zlen (o + 10) = 40) (ha : a < 10) : ∀ d i n x, i + d = 4 → d < n → f50_4 K n o (nI a) x (nI i) g = some (zfo (fun i => g (o + 10) (i * 10 + a)) d i x, g) := by
  intro d
  induction d with
  | zero =>
    intro i n x h1 h2
    obtain ⟨n, rfl⟩ : ∃ q, n = q + 1 := ⟨n - 1, by omega⟩
    unfold f50_4
    rw [show (4 : Int32) = nI 4 from rfl, if_pos (nI_le (by omega) (by omega))]
    rfl
  | succ d ih =>
    intro i n x h1 h2
    obtain ⟨n, rfl⟩ : ∃ q, n = q + 1 := ⟨n - 1, by omega⟩
    unfold f50_4 f51
    rw [show (4 : Int32) = nI 4 from rfl, show (10 : Int32) = nI 10 from rfl, if_neg (nI_ge (by omega) (by omega)), nI_mu, nI_add, f21_eq (by rw [hz]; omega) (by rw [hz]; decide), zbd_s, zbd_s, nI_1, ih (i + 1) n _ (by omega) (by omega)]
    rfl
theorem f166_lp {K a p : Nat} {g : zS} {x2 : Int32} (ha : a < 10) (hp : g 222 14 = nI p) (hp4 : p ≤ 4) : ∀ d i n x, i + d = p → f166_16 K (n + d) (nI a) x2 x (nI i) g = f166_16 K n (nI a) x2 (zfo (fun i => g 223 (17 + 10 * i + a)) d i x) (nI p) g := by
  intro d
  induction d with
  | zero =>
    intro i n x h1
    rw [show i = p by omega]
    rfl
  | succ d ih =>
    intro i n x h1
    have key : f166_16 K (n + d + 1) (nI a) x2 x (nI i) g = f166_16 K (n + d) (nI a) x2 (x + g 223 (17 + 10 * i + a)) (nI (i + 1)) g := by
      rw [f166_16]
      rw [hp, if_neg (nI_ge (by omega) (by omega)), show (10 : Int32) = nI 10 from rfl, show (17 : Int32) = nI 17 from rfl, nI_mu, nI_add, nI_add, if_pos (zin_i (by omega) (by decide)), nI_clamp (by omega), nI_1]
    rw [show n + (d + 1) = n + d + 1 by omega, key, ih (i + 1) n _ (by omega)]
    rfl
/-- the kind of a word, with d changes still to look at from the i-th -/
def zki (W Q T : Nat → Int32) (x1 x2 : Int32) : Nat → Nat → Int32 → Int32 → Int32
  | 0, _, a, _ => a
  | d + 1, i, a, b => if W i = x1 ∧ ¬ x2 < T i ∧ ¬ T i < b then zki W Q T x1 x2 d (i + 1) (Q i) (T i) else zki W Q T x1 x2 d (i + 1) a b
theorem zki_congr {W Q T W2 Q2 T2 : Nat → Int32} {x1 x2 : Int32} : ∀ {d i : Nat} {a b : Int32}, (∀ j, i ≤ j → j < i + d → W j = W2 j ∧ Q j = Q2 j ∧ T j = T2 j) → zki W Q T x1 x2 d i a b = zki W2 Q2 T2 x1 x2 d i a b := by
  intro d
  induction d with
  | zero => intro i a b _; rfl
  | succ d ih =>
    intro i a b h
    obtain ⟨h1, h2, h3⟩ := h i (by omega) (by omega)
    unfold zki
    rw [h1, h2, h3, ih fun j h1 h2 => h j (by omega) (by omega), ih fun j h1 h2 => h j (by omega) (by omega)]
theorem f49_lp {K o c : Nat} {g : zS} {x1 x2 : Int32} (hz : zlen (o + 10) = 6 ∧ zlen (o + 12) = 6 ∧ zlen (o + 14) = 6) (hc : g o 2 = nI c) (hc6 : c ≤ 6) : ∀ d i n a b, i + d = c → d < n → f49_15 K n o x1 x2 a b (nI i) g = some (zki (g (o + 10)) (g (o + 12)) (g (o + 14)) x1 x2 d i a b, g) := by
  obtain ⟨z1, z2, z3⟩ := hz
  intro d
  induction d with
  | zero =>
    intro i n a b h1 h2
    obtain ⟨n, rfl⟩ : ∃ q, n = q + 1 := ⟨n - 1, by omega⟩
    unfold f49_15
    rw [hc, if_pos (nI_le (by omega) (by omega))]
    rfl
  | succ d ih =>
    intro i n a b h1 h2
    obtain ⟨n, rfl⟩ : ∃ q, n = q + 1 := ⟨n - 1, by omega⟩
    unfold f49_15 f49_75 zki
    rw [hc, if_neg (nI_ge (by omega) (by omega)), f21_eq (by rw [z3]; omega) (by rw [z3]; decide), zbd_s, f21_eq (by rw [z1]; omega) (by rw [z1]; decide), zbd_s, f21_eq (by rw [z2]; omega) (by rw [z2]; decide), zbd_s, nI_1, ih (i + 1) n _ _ (by omega) (by omega), ih (i + 1) n _ _ (by omega) (by omega)]
    by_cases q1 : g (o + 10) i = x1
    · rw [if_neg (fun q => q q1)]
      by_cases q2 : x2 < g (o + 14) i
      · rw [if_pos q2, if_neg (fun q => q.2.1 q2)]
      · rw [if_neg q2]
        by_cases q3 : g (o + 14) i < b
        · rw [if_pos q3, if_neg (fun q => q.2.2 q3)]
        · rw [if_neg q3, if_pos ⟨q1, q2, q3⟩]
    · rw [if_pos q1, if_neg (fun q => q1 q.1)]
theorem f168_lp {K c : Nat} {g : zS} {x1 x2 : Int32} (hc : g 222 11 = nI c) (hc6 : c ≤ 6) : ∀ d i n a b, i + d = c → d < n → f168_13 K n x1 x2 a b (nI i) g = some (zki (fun i => g 229 (3 * i)) (fun i => g 229 (3 * i + 1)) (fun i => g 229 (3 * i + 2)) x1 x2 d i a b, g) := by
  intro d
  induction d with
  | zero =>
    intro i n a b h1 h2
    obtain ⟨n, rfl⟩ : ∃ q, n = q + 1 := ⟨n - 1, by omega⟩
    unfold f168_13
    rw [hc, if_pos (nI_le (by omega) (by omega))]
    rfl
  | succ d ih =>
    intro i n a b h1 h2
    obtain ⟨n, rfl⟩ : ∃ q, n = q + 1 := ⟨n - 1, by omega⟩
    have old : f168_70 K (f168_13 K n) x1 x2 a b (nI i) g = some (zki (fun i => g 229 (3 * i)) (fun i => g 229 (3 * i + 1)) (fun i => g 229 (3 * i + 2)) x1 x2 d (i + 1) a b, g) := by
      unfold f168_70 f168_71 f168_93 f168_115
      rw [if_pos rfl, if_pos rfl, nI_1, ih (i + 1) n _ _ (by omega) (by omega)]
    have new : f168_71 K (f168_13 K n) x1 x2 a b (nI i) 1 g = some (zki (fun i => g 229 (3 * i)) (fun i => g 229 (3 * i + 1)) (fun i => g 229 (3 * i + 2)) x1 x2 d (i + 1) (g 229 (3 * i + 1)) (g 229 (3 * i + 2)), g) := by
      unfold f168_71 f168_93 f168_115
      rw [if_neg (by decide), show (3 : Int32) = nI 3 from rfl, show (2 : Int32) = nI 2 from rfl, nI_mu, nI_1, nI_add, if_pos (zin_i (by omega) (by decide)), nI_clamp (by omega), if_neg (by decide), if_pos (zin_i (by omega) (by decide)), nI_clamp (by omega), nI_1, ih (i + 1) n _ _ (by omega) (by omega)]
    rw [f168_13]
    unfold zki
    rw [old, new, hc, if_neg (nI_ge (by omega) (by omega)), show (3 : Int32) = nI 3 from rfl, show (2 : Int32) = nI 2 from rfl, nI_mu, nI_add, if_pos (zin_i (by omega) (by decide)), nI_clamp (by omega), if_pos (zin_i (by omega) (by decide)), nI_clamp (by omega)]
    by_cases q1 : g 229 (3 * i) = x1
    · rw [if_neg (fun q => q q1)]
      by_cases q2 : x2 < g 229 (3 * i + 2)
      · rw [if_pos q2, if_neg (fun q => q.2.1 q2)]
      · rw [if_neg q2, if_pos (zin_i (by omega) (by decide))]
        by_cases q3 : g 229 (3 * i + 2) < b
        · rw [if_pos q3, if_neg (fun q => q.2.2 q3)]
        · rw [if_neg q3, if_pos ⟨q1, q2, q3⟩]
    · rw [if_pos q1, if_neg (fun q => q1 q.1)]
/-- the kind of the a-th word in week x: both say it -/
theorem zkind {K n a : Nat} {g : zS} {x : Int32} (hK : 8 ≤ K) (I : zInv n g) (ha : nI a < g 4 0) (ha10 : a < 10) : ∃ v, f49 K 4 (nI a) x g = some (v, g) ∧ f168 K (nI a) x g = some (v, g) := by
  obtain ⟨w, p, c, r, l, b0, ⟨b1, b2, b3, b4, b5⟩, ⟨c1, c2, c3, c4, c5⟩, d1, d2, d3⟩ := I.2.1
  have haw : a < w := (nI_ltI (by omega) (by omega)).mp (b1 ▸ ha)
  refine ⟨zki (g (4 + 10)) (g (4 + 12)) (g (4 + 14)) (nI a) x c 0 (g 6 a) (-1), ?_, ?_⟩
  · unfold f49
    rw [f21_eq (by exact (show a < 10 by omega)) (by decide), zbd_s, show (0 : Int32) = nI 0 from rfl, f49_lp ⟨by decide, by decide, by decide⟩ b3 (by omega) c 0 K _ _ (by omega) (by omega)]
  · unfold f168
    rw [if_pos (zin_i (by omega) (by decide)), nI_clamp (by omega), show (0 : Int32) = nI 0 from rfl, f168_lp c3 (by omega) c 0 K _ _ (by omega) (by omega), (d1 a haw).1]
    refine congrArg (fun q => some (q, g)) (zki_congr fun j _ hj => ?_).symm
    obtain ⟨e1, e2, e3, -⟩ := d3 j (by omega)
    exact ⟨e1, e2, e3⟩
