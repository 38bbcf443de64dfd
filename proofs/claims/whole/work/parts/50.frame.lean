-- ===== calls that change scratch alone =====
/-- the cells that answers rest on -/
def zKeep (c k : Nat) : Prop := c = 221 ∧ k = 0 ∨ c = 1 ∧ k ≤ 1 ∨ 2 ≤ c ∧ c < 19 ∨ 34 ≤ c ∧ c < 183 ∨ c = 186 ∧ k = 4 ∨ 187 ≤ c ∧ c < 192 ∨ 195 ≤ c ∧ c < 213 ∨ c = 222 ∧ k < 22 ∧ k ≠ 6 ∨ 223 ≤ c ∧ c ≤ 234 ∧ c ≠ 226
def zScr (g0 g : zS) : Prop := ∀ c k, zKeep c k → g c k = g0 c k
theorem zScr_0 {g : zS} : zScr g g := fun _ _ _ => rfl
theorem zScr_t {g0 g g1 : zS} (h : zScr g0 g) (h2 : zScr g g1) : zScr g0 g1 := fun c k q => (h2 c k q).trans (h c k q)
theorem zScr_up {g0 g : zS} {c k : Nat} {v : Int32} (h : zScr g0 g) (hk : ¬ zKeep c k) : zScr g0 (zup g c k v) := by
  intro c2 k2 q
  unfold zup
  by_cases h1 : c2 = c
  · by_cases h2 : k2 = k
    · subst h1 h2
      exact absurd q hk
    · rw [if_pos h1, if_neg h2]
      exact h c2 k2 q
  · rw [if_neg h1]
    exact h c2 k2 q
theorem zScr_c {g0 g : zS} (h : zScr g0 g) {c : Nat} (hk : (2 ≤ c ∧ c < 19) ∨ (34 ≤ c ∧ c < 183) ∨ (187 ≤ c ∧ c < 192) ∨ (195 ≤ c ∧ c < 213) ∨ (223 ≤ c ∧ c ≤ 234 ∧ c ≠ 226)) : g c = g0 c := by
  funext k
  refine h c k ?_
  unfold zKeep
  omega
theorem zScr_222 {g0 g : zS} (h : zScr g0 g) {k : Nat} (hk : k < 22 ∧ k ≠ 6) : g 222 k = g0 222 k := h 222 k (by unfold zKeep; omega)
theorem zInv_scr {n : Nat} {g0 g : zS} (I : zInv n g0) (s : zScr g0 g) : zInv n g := by
  obtain ⟨i1, i2, i3, i4, i5, i6⟩ := id I
  have c : ∀ c, ((2 ≤ c ∧ c < 19) ∨ (34 ≤ c ∧ c < 183) ∨ (187 ≤ c ∧ c < 192) ∨ (195 ≤ c ∧ c < 213) ∨ (223 ≤ c ∧ c ≤ 234 ∧ c ≠ 226)) → g c = g0 c := fun c => zScr_c s
  have d : ∀ k, k < 22 ∧ k ≠ 6 → g 222 k = g0 222 k := fun k => zScr_222 s
  refine ⟨zItx_fr i1 (s 1 1 (by unfold zKeep; omega)) (d 4 (by omega)) (c 3 (by omega)) (c 225 (by omega)), zIto_fr i2 (fun k _ => by rw [c 4 (by omega)]) ⟨d _ (by omega), d _ (by omega), d _ (by omega), d _ (by omega), d _ (by omega)⟩ ⟨c _ (by omega), c _ (by omega), c _ (by omega), c _ (by omega), c _ (by omega), c _ (by omega), c _ (by omega)⟩ ⟨c _ (by omega), c _ (by omega), c _ (by omega), c _ (by omega), c _ (by omega)⟩, zIst_fr i3 (by rw [c 34 (by omega)]) (fun i _ => by rw [c 223 (by omega)]) ⟨c _ (by omega), c _ (by omega), c _ (by omega), c _ (by omega), c _ (by omega), c _ (by omega)⟩ (by rw [c 4 (by omega)]), zIpa_fr i4 (fun q q1 q2 => c q (by omega)) (d 1 (by omega)) (fun i _ => by rw [c 223 (by omega)]) (c 224 (by omega)) (by rw [c 4 (by omega)]), zIli_fr i5 (by rw [c 180 (by omega)]) (d 18 (by omega)) (c 182 (by omega)) (c 232 (by omega)) (by rw [c 4 (by omega)]), zIdr_fr i6 (s 186 4 (by unfold zKeep; omega)) (d 21 (by omega)) (fun e he => ⟨by rw [c (195 + 3 * e) (by omega)], c _ (by omega)⟩) (c 233 (by omega)) (c 234 (by omega)) (by rw [c 4 (by omega)]) (s 221 0 (by unfold zKeep; omega))⟩
theorem zPair_scr {n : Nat} {a b : zS → Option (Int32 × zS)} (h : ∀ g, zInv n g → ∃ v, zR (a g) (fun r g1 => r = v ∧ zScr g g1) ∧ ∀ g1, zScr g g1 → zR (b g1) (fun r g2 => r = v ∧ zScr g g2)) : zPair (zInv n) (zInv (n + 1)) a b := by
  intro g I
  obtain ⟨v, ⟨r, g1, h1, rfl, h2⟩, h3⟩ := h g I
  obtain ⟨r2, g2, h4, rfl, h5⟩ := h3 g1 h2
  exact ⟨_, g1, g2, h1, h4, zInv_mono n g2 (zInv_scr I h5)⟩
-- ===== kinds of words =====
/-- the kind of the a-th word in week x -/
def zkd (g0 : zS) (a : Nat) (x : Int32) : Int32 := zki (g0 14) (g0 16) (g0 18) (nI a) x (g0 4 2).toNatClampNeg 0 (g0 6 a) (-1)
theorem f49_k {K a : Nat} {g0 g : zS} {x : Int32} (hK : 8 ≤ K) (I : zIto g0) (s : zScr g0 g) (ha : a < 10) : f49 K 4 (nI a) x g = some (zkd g0 a x, g) := by
  obtain ⟨w, p, c, r, l, b0, ⟨b1, b2, b3, b4, b5⟩, -⟩ := id I
  unfold f49
  rw [f21_eq (by exact ha) (by decide), zbd_s, show (0 : Int32) = nI 0 from rfl, f49_lp ⟨by decide, by decide, by decide⟩ (by rw [zScr_c s (by omega)]; exact b3) (by omega) c 0 K _ _ (by omega) (by omega)]
  unfold zkd
  rw [b3, nI_clamp (by omega), zScr_c s (c := 4 + 10) (by omega), zScr_c s (c := 4 + 12) (by omega), zScr_c s (c := 4 + 14) (by omega), zScr_c s (c := 4 + 1 + 1) (by omega)]
theorem f168_k {K a w : Nat} {g0 g : zS} {x : Int32} (hK : 8 ≤ K) (I : zIto g0) (s : zScr g0 g) (hw : g0 4 0 = nI w) (hw2 : w ≤ 10) (ha : a < w) : f168 K (nI a) x g = some (zkd g0 a x, g) := by
  obtain ⟨w2, p, c, r, l, b0, ⟨b1, b2, b3, b4, b5⟩, ⟨c1, c2, c3, c4, c5⟩, d1, d2, d3⟩ := id I
  have hww : w2 = w := (nI_eq (by omega) (by omega)).mp (b1.symm.trans hw)
  subst hww
  unfold f168
  rw [if_pos (zin_i (by omega) (by decide)), nI_clamp (by omega), show (0 : Int32) = nI 0 from rfl, f168_lp (by rw [zScr_222 s (by omega)]; exact c3) (by omega) c 0 K _ _ (by omega) (by omega), zScr_c s (c := 227) (by omega), zScr_c s (c := 229) (by omega), ← (d1 a ha).1]
  unfold zkd
  rw [b3, nI_clamp (by omega)]
  refine congrArg (fun q => some (q, g)) (zki_congr fun j _ hj => ?_).symm
  obtain ⟨e1, e2, e3, -⟩ := d3 j (by omega)
  exact ⟨e1, e2, e3⟩
theorem zki_pr {W Q T : Nat → Int32} {x1 x2 : Int32} {P : Int32 → Prop} : ∀ {d i : Nat} {a b : Int32}, P a → (∀ j, i ≤ j → j < i + d → P (Q j)) → P (zki W Q T x1 x2 d i a b) := by
  intro d
  induction d with
  | zero => intro i a b h _; exact h
  | succ d ih =>
    intro i a b h h2
    unfold zki
    by_cases q : W i = x1 ∧ ¬ x2 < T i ∧ ¬ T i < b
    · rw [if_pos q]
      exact ih (h2 i (by omega) (by omega)) fun j j1 j2 => h2 j (by omega) (by omega)
    · rw [if_neg q]
      exact ih h fun j j1 j2 => h2 j (by omega) (by omega)
theorem zkd_rg {a w : Nat} {g0 : zS} {x : Int32} (I : zIto g0) (hw : g0 4 0 = nI w) (hw2 : w ≤ 10) (ha : a < w) : ∃ k : Nat, k ≤ 4 ∧ zkd g0 a x = nI k := by
  obtain ⟨w2, p, c, r, l, b0, ⟨b1, b2, b3, b4, b5⟩, -, d1, d2, d3⟩ := id I
  have hww : w2 = w := (nI_eq (by omega) (by omega)).mp (b1.symm.trans hw)
  subst hww
  unfold zkd
  rw [b3, nI_clamp (by omega)]
  exact zki_pr (P := fun v => ∃ k : Nat, k ≤ 4 ∧ v = nI k) (d1 a ha).2.2.1 fun j _ hj => (d3 j (by omega)).2.2.2.2.1
