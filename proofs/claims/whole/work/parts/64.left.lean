-- ===== left =====
/-- is a trade left of a and b -/
abbrev zlfP (g0 : zS) (a b : Nat) : Prop := ¬ a = b ∧ ¬ g0 36 a ≤ 0 ∧ ¬ 60 ≤ g0 36 b ∧ ¬ g0 38 b < g0 12 a + 1 ∧ ¬ g0 12 b ≤ g0 12 a + 1
def zlq (g0 : zS) (p v : Nat) : Bool := decide (v / 4 < p ∧ v % 4 < p ∧ zlfP g0 (v / 4) (v % 4))
/-- how many, and the first -/
def zlu (Q : Nat → Bool) : Nat → Nat → Nat → Nat → Nat × Nat
  | 0, _, c, f => (c, f)
  | d + 1, v, c, f => if Q v = true then zlu Q d (v + 1) (c + 1) (if c = 0 then v else f) else zlu Q d (v + 1) c f
theorem zlu_s {Q : Nat → Bool} {d v c f : Nat} : zlu Q (d + 1) v c f = if Q v = true then zlu Q d (v + 1) (c + 1) (if c = 0 then v else f) else zlu Q d (v + 1) c f := rfl
theorem zlu_no {Q : Nat → Bool} : ∀ {d v c f : Nat}, (∀ j, v ≤ j → j < v + d → Q j = false) → zlu Q d v c f = (c, f) := by
  intro d
  induction d with
  | zero => intro v c f _; rfl
  | succ d ih =>
    intro v c f h
    rw [zlu_s, h v (by omega) (by omega), if_neg (by decide)]
    exact ih fun j j1 j2 => h j (by omega) (by omega)
theorem zlu_app {Q : Nat → Bool} {e : Nat} : ∀ {d v c f : Nat}, zlu Q (d + e) v c f = zlu Q e (v + d) (zlu Q d v c f).1 (zlu Q d v c f).2 := by
  intro d
  induction d with
  | zero => intro v c f; rw [Nat.zero_add]; rfl
  | succ d ih =>
    intro v c f
    rw [show d + 1 + e = (d + e) + 1 by omega, zlu_s, zlu_s]
    by_cases h : Q v = true
    · rw [if_pos h, if_pos h, ih, show v + (d + 1) = v + 1 + d by omega]
    · rw [if_neg h, if_neg h, ih, show v + (d + 1) = v + 1 + d by omega]
theorem zlu_le {Q : Nat → Bool} : ∀ {d v c f : Nat}, (zlu Q d v c f).1 ≤ c + d := by
  intro d
  induction d with
  | zero => intro v c f; exact Nat.le_refl _
  | succ d ih =>
    intro v c f
    rw [zlu_s]
    by_cases h : Q v = true
    · rw [if_pos h]
      have := @ih (v + 1) (c + 1) (if c = 0 then v else f)
      omega
    · rw [if_neg h]
      have := @ih (v + 1) c f
      omega
def zfa (f : Nat) : Int32 := if f < 16 then nI (f / 4) else -1
def zfb (f : Nat) : Int32 := if f < 16 then nI (f % 4) else -1
def zfr (f : Nat) : Int32 := if f < 16 then nI f else -1
theorem zlw : zlen (11 + 1) = 4 := by decide +kernel
theorem f137_eq {K a b : Nat} {g : zS} (ha : a < 4) (hb : b < 4) : f137 K (nI a) (nI b) g = some (if zlfP g a b then 1 else 0, g) := by
  unfold f137
  rw [f21_eq (by rw [zlw]; omega) (by rw [zlw]; decide), zbd_s, f21_eq (by rw [zl36]; omega) (by rw [zl36]; decide), zbd_s, f21_eq (by rw [zl36]; omega) (by rw [zl36]; decide), zbd_s, f21_eq (by rw [zl38]; omega) (by rw [zl38]; decide), zbd_s, f21_eq (by rw [zlw]; omega) (by rw [zlw]; decide), zbd_s]
  show (if nI a = nI b then some (0, g) else if g 36 a ≤ 0 then some (0, g) else if 60 ≤ g 36 b then some (0, g) else if g 38 b < g 12 a + 1 then some (0, g) else if g 12 b ≤ g 12 a + 1 then some (0, g) else some (1, g)) = some (if zlfP g a b then 1 else 0, g)
  by_cases h1 : a = b
  · rw [if_pos (by rw [h1]), if_neg (fun z => z.1 h1)]
  rw [if_neg (fun z => h1 ((nI_eq (by omega) (by omega)).mp z))]
  by_cases h2 : g 36 a ≤ 0
  · rw [if_pos h2, if_neg (fun z => z.2.1 h2)]
  rw [if_neg h2]
  by_cases h3 : 60 ≤ g 36 b
  · rw [if_pos h3, if_neg (fun z => z.2.2.1 h3)]
  rw [if_neg h3]
  by_cases h4 : g 38 b < g 12 a + 1
  · rw [if_pos h4, if_neg (fun z => z.2.2.2.1 h4)]
  rw [if_neg h4]
  by_cases h5 : g 12 b ≤ g 12 a + 1
  · rw [if_pos h5, if_neg (fun z => z.2.2.2.2 h5)]
  rw [if_neg h5, if_pos ⟨h1, h2, h3, h4, h5⟩]
theorem zlq_at {g0 : zS} {p a b : Nat} (ha : a < p) (hb : b < p) (hp : p ≤ 4) : zlq g0 p (4 * a + b) = decide (zlfP g0 a b) := by
  unfold zlq
  rw [show (4 * a + b) / 4 = a by omega, show (4 * a + b) % 4 = b by omega]
  by_cases h : zlfP g0 a b
  · rw [decide_eq_true h, decide_eq_true ⟨ha, hb, h⟩]
  · rw [decide_eq_false h, decide_eq_false (fun z => h z.2.2)]
theorem zlq_no {g0 : zS} {p v : Nat} (h : ¬ (v / 4 < p ∧ v % 4 < p)) : zlq g0 p v = false := decide_eq_false fun z => h ⟨z.1, z.2.1⟩
theorem zfa_v {a b : Nat} (ha : a < 4) (hb : b < 4) : zfa (4 * a + b) = nI a ∧ zfb (4 * a + b) = nI b := by
  unfold zfa zfb
  rw [if_pos (by omega), if_pos (by omega), show (4 * a + b) / 4 = a by omega, show (4 * a + b) % 4 = b by omega]
  exact ⟨rfl, rfl⟩
theorem f136_37_lp {K p a : Nat} {x1 : Int32} {g : zS} {k : Int32 → Int32 → Int32 → Int32 → Int32 → zS → Option (Int32 × zS)} (hp : p ≤ 4) (b1 : g 4 1 = nI p) (ha : a < p) : ∀ d b q c f, b + d = p → d < q → c + d < 100 → f136_37 K k q x1 (nI c) (zfa f) (zfb f) (nI a) (nI b) g = k x1 (nI (zlu (zlq g p) d (4 * a + b) c f).1) (zfa (zlu (zlq g p) d (4 * a + b) c f).2) (zfb (zlu (zlq g p) d (4 * a + b) c f).2) (nI (a + 1)) g := by
  intro d
  induction d with
  | zero =>
    intro b q c f h1 h2 h3
    obtain ⟨q, rfl⟩ : ∃ z, q = z + 1 := ⟨q - 1, by omega⟩
    rw [f136_37, b1, if_pos (nI_le (by omega) (by omega)), nI_1]
    rfl
  | succ d ih =>
    intro b q c f h1 h2 h3
    obtain ⟨q, rfl⟩ : ∃ z, q = z + 1 := ⟨q - 1, by omega⟩
    rw [f136_37, b1, if_neg (nI_ge (by omega) (by omega)), f137_eq (by omega) (by omega), zbd_s, zlu_s, zlq_at ha (show b < p by omega) hp]
    unfold f136_70 f136_82 f136_87
    obtain ⟨va, vb⟩ := zfa_v (show a < 4 by omega) (show b < 4 by omega)
    by_cases h : zlfP g a b
    · rw [if_pos h, if_neg (show ¬ (1 : Int32) = 0 by decide), decide_eq_true h, if_pos (show true = true from rfl)]
      by_cases hc : c = 0
      · have e : ¬ ¬ nI c = 0 := fun z => z (by rw [hc]; rfl)
        rw [if_neg e, if_neg e, nI_1, nI_1, if_pos hc]
        have := ih (b + 1) q (c + 1) (4 * a + b) (by omega) (by omega) (by omega)
        rw [va, vb] at this
        exact this
      · have e : ¬ nI c = 0 := nI_ne0 (by omega) (by omega)
        rw [if_pos e, if_pos e, nI_1, nI_1, if_neg hc]
        exact ih (b + 1) q (c + 1) f (by omega) (by omega) (by omega)
    · rw [if_neg h, if_pos (show (0 : Int32) = 0 from rfl), decide_eq_false h, if_neg (show ¬ false = true by decide), nI_1]
      exact ih (b + 1) q c f (by omega) (by omega) (by omega)
theorem f136_22_lp {K p : Nat} {x1 : Int32} {g : zS} (hK : 20 ≤ K) (hp : p ≤ 4) (b1 : g 4 1 = nI p) : ∀ d a q c f, a + d = p → d < q → c < 50 → c ≤ 4 * a → f136_22 K q x1 (nI c) (zfa f) (zfb f) (nI a) g = some (if x1 = 0 then nI (zlu (zlq g p) (4 * d) (4 * a) c f).1 else if x1 = 1 then zfa (zlu (zlq g p) (4 * d) (4 * a) c f).2 else zfb (zlu (zlq g p) (4 * d) (4 * a) c f).2, g) := by
  intro d
  induction d with
  | zero =>
    intro a q c f h1 h2 h3 h4
    obtain ⟨q, rfl⟩ : ∃ z, q = z + 1 := ⟨q - 1, by omega⟩
    rw [f136_22, b1, if_pos (nI_le (by omega) (by omega))]
    show (if ¬ x1 = 0 then if ¬ x1 = 1 then some (zfb f, g) else some (zfa f, g) else some (nI c, g)) = some (if x1 = 0 then nI c else if x1 = 1 then zfa f else zfb f, g)
    by_cases z0 : x1 = 0
    · rw [if_neg (fun z => z z0), if_pos z0]
    rw [if_pos z0, if_neg z0]
    by_cases z1 : x1 = 1
    · rw [if_neg (fun z => z z1), if_pos z1]
    · rw [if_pos z1, if_neg z1]
  | succ d ih =>
    intro a q c f h1 h2 h3 h4
    obtain ⟨q, rfl⟩ : ∃ z, q = z + 1 := ⟨q - 1, by omega⟩
    have e : zlu (zlq g p) (4 * (d + 1)) (4 * a) c f = zlu (zlq g p) (4 * d) (4 * (a + 1)) (zlu (zlq g p) p (4 * a + 0) c f).1 (zlu (zlq g p) p (4 * a + 0) c f).2 := by
      have e2 : zlu (zlq g p) (p + (4 - p)) (4 * a) c f = zlu (zlq g p) p (4 * a + 0) c f := by
        rw [zlu_app, zlu_no (fun j j1 j2 => zlq_no (by omega)), Nat.add_zero]
      rw [show p + (4 - p) = 4 by omega] at e2
      rw [show 4 * (d + 1) = 4 + 4 * d by omega, zlu_app, e2, show 4 * a + 4 = 4 * (a + 1) by omega]
    have hle := @zlu_le (zlq g p) p (4 * a + 0) c f
    rw [f136_22, b1, if_neg (nI_ge (by omega) (by omega)), show (0 : Int32) = nI 0 from rfl, f136_37_lp hp b1 (by omega) p 0 K c f (by omega) (by omega) (by omega), e]
    exact ih (a + 1) q _ _ (by omega) (by omega) (by omega) (by omega)
theorem f225_lp {K n p : Nat} {x1 : Int32} {g0 g : zS} (I : zInv n g0) (s : zScr g0 g) (hp : p ≤ 4) (b1 : g0 4 1 = nI p) (b2 : g0 222 14 = nI p) (hx : x1 = 0 ∨ x1 = 1 ∨ x1 = 2) : ∀ d v q c f, v + d = 16 → d < q → c ≤ v → (c = 0 → f = 16) → (¬ c = 0 → f < 16) → f225_22 K q x1 (nI c) (zfr f) (nI v) g = some (if x1 = 0 then nI (zlu (zlq g0 p) d v c f).1 else if x1 = 1 then zfa (zlu (zlq g0 p) d v c f).2 else zfb (zlu (zlq g0 p) d v c f).2, g) := by
  intro d
  induction d with
  | zero =>
    intro v q c f h1 h2 h3 h4 h5
    obtain ⟨q, rfl⟩ : ∃ z, q = z + 1 := ⟨q - 1, by omega⟩
    rw [f225_22, show (16 : Int32) = nI 16 from rfl, if_pos (nI_le (by omega) (by omega))]
    show _ = some (if x1 = 0 then nI c else if x1 = 1 then zfa f else zfb f, g)
    by_cases z0 : x1 = 0
    · rw [if_neg (fun z => z z0), if_pos z0]
    rw [if_pos z0, if_neg z0]
    unfold zfr zfa zfb
    by_cases hf : f < 16
    · rw [if_pos hf, if_pos hf, if_pos hf, if_pos (nI_nm1 (by omega)), show (4 : Int32) = nI 4 from rfl, pk_div (by omega) (by omega) (by omega), nI_mu, pk_sub (by omega), show f - f / 4 * 4 = f % 4 by omega]
      by_cases z1 : x1 = 1
      · rw [if_neg (fun z => z z1), if_pos z1]
      · rw [if_pos z1, if_neg z1]
    · rw [if_neg hf, if_neg hf, if_neg hf, if_neg (fun z => z rfl)]
      by_cases z1 : x1 = 1
      · rw [if_pos z1]
      · rw [if_neg z1]
  | succ d ih =>
    intro v q c f h1 h2 h3 h4 h5
    obtain ⟨q, rfl⟩ : ∃ z, q = z + 1 := ⟨q - 1, by omega⟩
    have hv4 : nI v / 4 = nI (v / 4) := pk_div (a := v) (d := 4) (by omega) (by omega) (by omega)
    have hvm : nI v - nI (v / 4) * 4 = nI (v % 4) := by
      rw [show (4 : Int32) = nI 4 from rfl, nI_mu, pk_sub (by omega), show v - v / 4 * 4 = v % 4 by omega]
    rw [f225_22, show (16 : Int32) = nI 16 from rfl, if_neg (nI_ge (by omega) (by omega)), hv4, hvm, f194_eq, zbd_s, zScr_222 s (by omega), b2, zlu_s]
    -- the ends
    have no : f225_132 K (f225_22 K q) x1 (nI c) (zfr f) (nI v) g = f225_22 K q x1 (nI c) (zfr f) (nI (v + 1)) g := by
      unfold f225_132 f225_133
      rw [if_pos rfl]
      unfold f225_149 f225_150
      rw [if_pos rfl]
      unfold f225_162
      rw [Int32.add_zero, nI_1]
    have yes : f225_133 K (f225_22 K q) x1 (nI c) (zfr f) (nI v) 1 g = f225_22 K q x1 (nI (c + 1)) (zfr (if c = 0 then v else f)) (nI (v + 1)) g := by
      unfold f225_133
      rw [if_neg (show ¬ (1 : Int32) = 0 by decide)]
      unfold f225_149 f225_150
      rw [if_neg (show ¬ (1 : Int32) = 0 by decide)]
      unfold f225_162
      by_cases hc : c = 0
      · rw [if_neg (show ¬ ¬ nI c = 0 from fun z => z (by rw [hc]; rfl)), if_pos hc, if_neg (show ¬ (1 : Int32) = 0 by decide), nI_1, nI_1]
        unfold zfr
        rw [if_pos (show v < 16 by omega)]
      · rw [if_pos (nI_ne0 (by omega) (by omega)), if_neg hc, nI_1, nI_1]
    have ihno := ih (v + 1) q c f (by omega) (by omega) (by omega) h4 h5
    have ihyes := ih (v + 1) q (c + 1) (if c = 0 then v else f) (by omega) (by omega) (by omega) (fun z => by omega) (fun _ => by
      by_cases hc : c = 0
      · rw [if_pos hc]; omega
      · rw [if_neg hc]; exact h5 hc)
    by_cases hw : zwt (nI (v / 4)) (nI (v % 4)) (nI p) = 0
    · have hq : zlq g0 p v = false := by
        refine decide_eq_false fun z => ?_
        unfold zwt at hw
        rw [if_neg (show ¬ zwi (nI (v / 4)) 0 (nI p - 1) = 0 by
          unfold zwi
          rw [if_neg (nI_pos (by omega)), show nI p - 1 = nI (p - 1) from pk_sub (a := p) (b := 1) (by omega), if_neg (nI_nlt (by omega) (by omega))]; decide), if_neg (show ¬ zwi (nI (v % 4)) 0 (nI p - 1) = 0 by
          unfold zwi
          rw [if_neg (nI_pos (by omega)), show nI p - 1 = nI (p - 1) from pk_sub (a := p) (b := 1) (by omega), if_neg (nI_nlt (by omega) (by omega))]; decide), if_neg (fun y => z.2.2.1 ((nI_eq (by omega) (by omega)).mp y))] at hw
        exact absurd hw (by decide)
      rw [if_pos hw, hq, if_neg (show ¬ false = true by decide)]
      unfold f225_69
      rw [if_pos hw, no]
      exact ihno
    · obtain ⟨a, b, a1, a2, ab, ea, eb⟩ := zwt_of (by omega) hw
      have ea : v / 4 = a := (nI_eq (by omega) (by omega)).mp ea
      have eb : v % 4 = b := (nI_eq (by omega) (by omega)).mp eb
      obtain ⟨-, -, s3, -⟩ := I.2.2.1
      obtain ⟨w0, p0, c0, r0, l0, u0, ⟨-, w2, -⟩, -, -, d2, -⟩ := I.2.1
      have hpp : p0 = p := (nI_eq (by omega) (by omega)).mp (w2.symm.trans b1)
      have ha36 : g 223 (1 + a) = g0 36 a := by rw [zScr_c s (by omega), show 1 + a = 0 + 1 + a by omega]; exact (s3 a (by omega)).1.symm
      have hb36 : g 223 (1 + b) = g0 36 b := by rw [zScr_c s (by omega), show 1 + b = 0 + 1 + b by omega]; exact (s3 b (by omega)).1.symm
      have hb38 : g 223 (5 + b) = g0 38 b := by rw [zScr_c s (by omega), show 5 + b = 0 + 5 + b by omega]; exact (s3 b (by omega)).2.1.symm
      have ha12 : g 231 a = g0 12 a := by rw [zScr_c s (by omega)]; exact (d2 a (by omega)).2.1.symm
      have hb12 : g 231 b = g0 12 b := by rw [zScr_c s (by omega)]; exact (d2 b (by omega)).2.1.symm
      have hq : zlq g0 p v = decide (zlfP g0 a b) := by
        rw [show v = 4 * a + b by omega]
        exact zlq_at a1 a2 hp
      rw [if_neg hw, hq, ea, eb, if_pos (zin_i (show a < 4 by omega) (by decide)), nI_clamp (show a < 2 ^ 31 by omega), ha12]
      unfold f225_69
      rw [ea, eb] at hw
      have i1 : (1 : Int32) + nI a = nI (1 + a) := nI_add 1 a
      have i2 : (1 : Int32) + nI b = nI (1 + b) := nI_add 1 b
      have i5 : (5 : Int32) + nI b = nI (5 + b) := nI_add 5 b
      have j1 : zin (nI (1 + a)) 803 := zin_i (by omega) (by decide)
      have j2 : zin (nI (1 + b)) 803 := zin_i (by omega) (by decide)
      have j5 : zin (nI (5 + b)) 803 := zin_i (by omega) (by decide)
      have jb : zin (nI b) 4 := zin_i (by omega) (by decide)
      have c1 : (nI (1 + a)).toNatClampNeg = 1 + a := nI_clamp (by omega)
      have c2 : (nI (1 + b)).toNatClampNeg = 1 + b := nI_clamp (by omega)
      have c5 : (nI (5 + b)).toNatClampNeg = 5 + b := nI_clamp (by omega)
      have cb : (nI b).toNatClampNeg = b := nI_clamp (by omega)
      rw [if_neg hw]
      simp only [i1, i2, i5, if_pos j1, if_pos j2, if_pos j5, if_pos jb, c1, c2, c5, cb, ha36, hb36, hb38, hb12, no, yes]
      by_cases y2 : g0 36 a ≤ 0
      · rw [if_pos y2, decide_eq_false (fun z => z.2.1 y2), if_neg (show ¬ false = true by decide)]; exact ihno
      rw [if_neg y2]
      by_cases y3 : 60 ≤ g0 36 b
      · rw [if_pos y3, decide_eq_false (fun z => z.2.2.1 y3), if_neg (show ¬ false = true by decide)]; exact ihno
      rw [if_neg y3]
      by_cases y4 : g0 38 b < g0 12 a + 1
      · rw [if_pos y4, decide_eq_false (fun z => z.2.2.2.1 y4), if_neg (show ¬ false = true by decide)]; exact ihno
      rw [if_neg y4]
      by_cases y5 : g0 12 b ≤ g0 12 a + 1
      · rw [if_pos y5, decide_eq_false (fun z => z.2.2.2.2 y5), if_neg (show ¬ false = true by decide)]; exact ihno
      rw [if_neg y5, decide_eq_true (show zlfP g0 a b from ⟨ab, y2, y3, y4, y5⟩), if_pos (show true = true from rfl)]
      exact ihyes
theorem zp_left {K : Nat} (hK : 20 ≤ K) (n : Nat) (x : Int32) : zPair (zInv n) (zInv (n + 1)) (f136 K x) (f225 K x) := by
  refine zPair_scr fun g I => ?_
  obtain ⟨p, r, p4, r20, b1, b2, -, -, -⟩ := zpe I
  by_cases hx : zwi x 0 2 = 0
  · refine ⟨-3, zR_eq (g := g) ?_ ⟨rfl, zScr_0⟩, fun g1 s1 => zR_eq (g := g1) ?_ ⟨rfl, s1⟩⟩
    · unfold f136
      rw [f12_eq, zbd_s, if_neg (fun z => z hx)]
    · unfold f225
      rw [i64_0, i64_2, f146_eq, zbd_s, if_neg (fun z => z hx)]
  obtain ⟨j, j2, hj⟩ := zwi_of (b := 2) (by decide) hx
  have hx3 : x = 0 ∨ x = 1 ∨ x = 2 := by
    have : j = 0 ∨ j = 1 ∨ j = 2 := by omega
    rcases this with rfl | rfl | rfl
    · exact Or.inl hj
    · exact Or.inr (Or.inl hj)
    · exact Or.inr (Or.inr hj)
  refine ⟨if x = 0 then nI (zlu (zlq g p) 16 0 0 16).1 else if x = 1 then zfa (zlu (zlq g p) 16 0 0 16).2 else zfb (zlu (zlq g p) 16 0 0 16).2, zR_eq (g := g) ?_ ⟨rfl, zScr_0⟩, fun g1 s1 => zR_eq (g := g1) ?_ ⟨rfl, s1⟩⟩
  · have e : zlu (zlq g p) 16 0 0 16 = zlu (zlq g p) (4 * p) (4 * 0) 0 16 := by
      have e2 : zlu (zlq g p) (4 * p + (16 - 4 * p)) 0 0 16 = zlu (zlq g p) (4 * p) (4 * 0) 0 16 := by
        rw [zlu_app, zlu_no (fun j j1 j2 => zlq_no (by omega)), Nat.mul_zero]
      rw [show 4 * p + (16 - 4 * p) = 16 by omega] at e2
      exact e2
    have := f136_22_lp (K := K) (x1 := x) (g := g) hK p4 b1 p 0 K 0 16 (by omega) (by omega) (by omega) (by omega)
    rw [← e] at this
    unfold f136
    rw [f12_eq, zbd_s, if_pos hx]
    exact this
  · unfold f225
    rw [i64_0, i64_2, f146_eq, zbd_s, if_pos hx]
    exact f225_lp (K := K) I s1 p4 b1 b2 hx3 16 0 K 0 16 (by omega) (by omega) (by omega) (fun _ => rfl) (fun z => absurd rfl z)
