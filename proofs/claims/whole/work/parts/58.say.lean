-- ===== say =====
theorem zInv_st {n : Nat} {g R : zS} (I : zInv n g) (a : ∀ c k, zKeep c k → ¬ (34 ≤ c ∧ c < 180) → c ≠ 223 → c ≠ 224 → ¬ (c = 222 ∧ k = 1) → R c k = g c k) (h3 : zIst n 34 0 R) (h4 : zIpa n R) : zInv n R := by
  obtain ⟨i1, i2, -, -, i5, i6⟩ := I
  have c : ∀ c, ((2 ≤ c ∧ c < 19) ∨ (180 ≤ c ∧ c < 183) ∨ (187 ≤ c ∧ c < 192) ∨ (195 ≤ c ∧ c < 213) ∨ (225 ≤ c ∧ c ≤ 234 ∧ c ≠ 226)) → R c = g c := fun c hc => by
    funext k
    exact a c k (by unfold zKeep; omega) (by omega) (by omega) (by omega) (by omega)
  have d : ∀ k, k < 22 ∧ k ≠ 6 ∧ k ≠ 1 → R 222 k = g 222 k := fun k hk => a 222 k (by unfold zKeep; omega) (by omega) (by omega) (by omega) (by omega)
  exact ⟨zItx_fr i1 (a 1 1 (by unfold zKeep; omega) (by omega) (by omega) (by omega) (by omega)) (d 4 (by omega)) (c 3 (by omega)) (c 225 (by omega)), zIto_fr i2 (fun k _ => by rw [c 4 (by omega)]) ⟨d _ (by omega), d _ (by omega), d _ (by omega), d _ (by omega), d _ (by omega)⟩ ⟨c _ (by omega), c _ (by omega), c _ (by omega), c _ (by omega), c _ (by omega), c _ (by omega), c _ (by omega)⟩ ⟨c _ (by omega), c _ (by omega), c _ (by omega), c _ (by omega), c _ (by omega)⟩, h3, h4, zIli_fr i5 (by rw [c 180 (by omega)]) (d 18 (by omega)) (c 182 (by omega)) (c 232 (by omega)) (by rw [c 4 (by omega)]), zIdr_fr i6 (a 186 4 (by unfold zKeep; omega) (by omega) (by omega) (by omega) (by omega)) (d 21 (by omega)) (fun e he => ⟨by rw [c (195 + 3 * e) (by omega)], c _ (by omega)⟩) (c 233 (by omega)) (c 234 (by omega)) (by rw [c 4 (by omega)]) (a 221 0 (by unfold zKeep; omega) (by omega) (by omega) (by omega) (by omega))⟩
/-- prices rest on what is told alone -/
def zTld (g0 g : zS) : Prop := (∀ c, 4 ≤ c → c < 19 → g c = g0 c) ∧ (∀ c, 227 ≤ c → c ≤ 231 → g c = g0 c) ∧ ∀ k, 9 ≤ k → k ≤ 16 → g 222 k = g0 222 k
theorem zTld_to {g0 g : zS} (h : zTld g0 g) (I : zIto g0) : zIto g := zIto_fr I (fun k _ => by rw [h.1 4 (by omega) (by omega)]) ⟨h.2.2 _ (by omega) (by omega), h.2.2 _ (by omega) (by omega), h.2.2 _ (by omega) (by omega), h.2.2 _ (by omega) (by omega), h.2.2 _ (by omega) (by omega)⟩ ⟨h.1 _ (by omega) (by omega), h.1 _ (by omega) (by omega), h.1 _ (by omega) (by omega), h.1 _ (by omega) (by omega), h.1 _ (by omega) (by omega), h.1 _ (by omega) (by omega), h.1 _ (by omega) (by omega)⟩ ⟨h.2.1 _ (by omega) (by omega), h.2.1 _ (by omega) (by omega), h.2.1 _ (by omega) (by omega), h.2.1 _ (by omega) (by omega), h.2.1 _ (by omega) (by omega)⟩
theorem zkd_c {g0 g : zS} (h : zTld g0 g) {a : Nat} {x : Int32} : zkd g a x = zkd g0 a x := by
  unfold zkd
  rw [h.1 14 (by omega) (by omega), h.1 16 (by omega) (by omega), h.1 18 (by omega) (by omega), h.1 4 (by omega) (by omega), h.1 6 (by omega) (by omega)]
theorem zQ_c {g0 g : zS} (h : zTld g0 g) {x : Int32} {m : Nat} {U : Nat → Int32} : zQ g x m U = zQ g0 x m U := by
  funext i
  unfold zQ
  rw [zkd_c h]
theorem zPr_c {g0 g : zS} (h : zTld g0 g) {κ x : Int32} {m : Nat} {U : Nat → Int32} : zPr g κ x m U = zPr g0 κ x m U := by
  unfold zPr
  rw [zQ_c h, h.1 4 (by omega) (by omega)]
theorem zwo_c {g0 g : zS} (h : zTld g0 g) {U : Nat → Int32} : ∀ {m : Nat}, zwo g U m = zwo g0 U m := by
  intro m
  induction m with
  | zero => rfl
  | succ m ih => rw [zwo_s, zwo_s, ih, h.1 8 (by omega) (by omega)]
theorem zWds_c {g0 g : zS} (h : zTld g0 g) {m : Nat} {U : Nat → Int32} (W : zWds g0 m U) : zWds g m U := by
  unfold zWds
  rw [h.1 4 (by omega) (by omega)]
  exact W
/-- how often words were said, after places i and on -/
def zsf (a : Nat) (U : Nat → Int32) : Nat → Nat → (Nat → Int32) → Nat → Int32
  | 0, _, F => F
  | d + 1, i, F => zsf a U d (i + 1) (fun k => if k = a * 10 + (U i).toNatClampNeg then F k + 1 else F k)
theorem zsf_s {a : Nat} {U : Nat → Int32} {d i : Nat} {F : Nat → Int32} : zsf a U (d + 1) i F = zsf a U d (i + 1) (fun k => if k = a * 10 + (U i).toNatClampNeg then F k + 1 else F k) := rfl
theorem zsf_c {a : Nat} {U : Nat → Int32} : ∀ {d i : Nat} {F G : Nat → Int32}, (∀ k, k < 40 → F k = G k) → ∀ k, k < 40 → zsf a U d i F k = zsf a U d i G k := by
  intro d
  induction d with
  | zero => intro i F G h; exact h
  | succ d ih =>
    intro i F G h
    unfold zsf
    refine ih fun k hk => ?_
    show (if k = a * 10 + (U i).toNatClampNeg then F k + 1 else F k) = (if k = a * 10 + (U i).toNatClampNeg then G k + 1 else G k)
    rw [h k hk]
theorem zsf_b {a : Nat} {U : Nat → Int32} {k : Nat} : ∀ {d i t : Nat} {F : Nat → Int32}, F k = nI t → ∃ c, c ≤ d ∧ zsf a U d i F k = nI (t + c) := by
  intro d
  induction d with
  | zero => intro i t F h; exact ⟨0, by omega, h⟩
  | succ d ih =>
    intro i t F h
    unfold zsf
    by_cases q : k = a * 10 + (U i).toNatClampNeg
    · obtain ⟨c, c1, c2⟩ := @ih (i + 1) (t + 1) (fun k => if k = a * 10 + (U i).toNatClampNeg then F k + 1 else F k) (by
        show (if k = a * 10 + (U i).toNatClampNeg then F k + 1 else F k) = _
        rw [if_pos q, h, nI_1])
      exact ⟨c + 1, by omega, by rw [c2, show t + 1 + c = t + (c + 1) by omega]⟩
    · obtain ⟨c, c1, c2⟩ := @ih (i + 1) t (fun k => if k = a * 10 + (U i).toNatClampNeg then F k + 1 else F k) (by
        show (if k = a * 10 + (U i).toNatClampNeg then F k + 1 else F k) = _
        rw [if_neg q, h])
      exact ⟨c, by omega, c2⟩
/-- nothing of others -/
theorem zsf_o {a : Nat} {U : Nat → Int32} {k : Nat} (hk : ∀ w, w < 10 → k ≠ a * 10 + w) : ∀ {d i : Nat} {F : Nat → Int32}, (∀ j, i ≤ j → j < i + d → ∃ w : Nat, w < 10 ∧ U j = nI w) → zsf a U d i F k = F k := by
  intro d
  induction d with
  | zero => intro i F _; rfl
  | succ d ih =>
    intro i F h
    obtain ⟨w, w1, w2⟩ := h i (by omega) (by omega)
    unfold zsf
    rw [ih fun j j1 j2 => h j (by omega) (by omega)]
    show (if k = a * 10 + (U i).toNatClampNeg then F k + 1 else F k) = F k
    rw [w2, nI_clamp (by omega), if_neg (hk w w1)]
theorem f84_lp {K a m : Nat} {U : Nat → Int32} (ha : a < 4) (hU : ∀ j, j < m → ∃ w : Nat, w < 10 ∧ U j = nI w) : ∀ d i n (g : zS), i + d = m → d < n → zLn 180 m U g → ∃ G, f84_2 K n 34 (nI a) 180 (nI i) g = some ((), G) ∧ (∀ c, c ≠ 44 → G c = g c) ∧ G 44 = zsf a U d i (g 44) := by
  intro d
  induction d with
  | zero =>
    intro i n g h1 h2 L
    obtain ⟨n, rfl⟩ : ∃ q, n = q + 1 := ⟨n - 1, by omega⟩
    have := L.2.1
    refine ⟨g, ?_, fun c _ => rfl, rfl⟩
    rw [f84_2, L.2.2.1, if_pos (nI_le (by omega) (by omega))]
  | succ d ih =>
    intro i n g h1 h2 L
    obtain ⟨n, rfl⟩ : ∃ q, n = q + 1 := ⟨n - 1, by omega⟩
    have hm := L.2.1
    obtain ⟨w, w1, w2⟩ := hU i (by omega)
    obtain ⟨G, e1, e2, e3⟩ := ih (i + 1) n (zup g 44 (a * 10 + w) (g 44 (a * 10 + w) + 1)) (by omega) (by omega) ⟨L.1, L.2.1, by rw [zup_c (by decide)]; exact L.2.2.1, fun j hj => by rw [zup_c (by decide)]; exact L.2.2.2 j hj⟩
    refine ⟨G, ?_, fun c hc => by rw [e2 c hc, zup_c hc], ?_⟩
    · rw [f84_2, L.2.2.1, if_neg (nI_ge (by omega) (by omega)), f62_eq L (by omega), zbd_s, if_pos (show i < m by omega), w2, show (10 : Int32) = nI 10 from rfl, nI_mu, nI_add, f82_eq (by exact (show a * 10 + w < 40 by omega)) (by decide), zbd_s, nI_1]
      exact e1
    · rw [e3]
      rw [zsf_s]
      refine congrArg (zsf a U d (i + 1)) (funext fun k => ?_)
      rw [zup_e, w2, nI_clamp (by omega)]
      by_cases q : k = a * 10 + w
      · rw [if_pos q, if_pos q, q]
      · rw [if_neg q, if_neg q]
theorem f187_lp {K a m : Nat} {U : Nat → Int32} (ha : a < 4) (hm : m ≤ 8) (hU : ∀ j, j < m → ∃ w : Nat, w < 10 ∧ U j = nI w) : ∀ d i n (g : zS), i + d = m → d < n → g 222 29 = nI m → (∀ j, j < m → g 235 j = U j) → ∃ G, f187_119 K n (nI a) (nI i) g = some (1, G) ∧ (∀ c, c ≠ 223 → G c = g c) ∧ (∀ k, G 223 (17 + k) = zsf a U d i (fun k => g 223 (17 + k)) k) ∧ ∀ k, k < 17 → G 223 k = g 223 k := by
  intro d
  induction d with
  | zero =>
    intro i n g h1 h2 h3 h4
    obtain ⟨n, rfl⟩ : ∃ q, n = q + 1 := ⟨n - 1, by omega⟩
    refine ⟨g, ?_, fun c _ => rfl, fun k => rfl, fun k _ => rfl⟩
    rw [f187_119, h3, if_pos (nI_le (by omega) (by omega))]
  | succ d ih =>
    intro i n g h1 h2 h3 h4
    obtain ⟨n, rfl⟩ : ∃ q, n = q + 1 := ⟨n - 1, by omega⟩
    obtain ⟨w, w1, w2⟩ := hU i (by omega)
    obtain ⟨G, e1, e2, e3, e4⟩ := ih (i + 1) n (zup g 223 (17 + 10 * a + w) (g 223 (17 + 10 * a + w) + 1)) (by omega) (by omega) (by rw [zup_c (by decide)]; exact h3) (fun j hj => by rw [zup_c (by decide)]; exact h4 j hj)
    refine ⟨G, ?_, fun c hc => by rw [e2 c hc, zup_c hc], fun k => ?_, fun k hk => by rw [e4 k hk, zup_k (by omega)]⟩
    · rw [f187_119, h3, if_neg (nI_ge (by omega) (by omega)), if_pos (zin_i (show i < 8 by omega) (by decide)), nI_clamp (show i < 2 ^ 31 by omega), h4 i (by omega), w2, show (10 : Int32) = nI 10 from rfl, show (17 : Int32) = nI 17 from rfl, nI_mu, nI_add, nI_add, if_pos (zin_i (show 17 + 10 * a + w < 803 by omega) (by decide)), if_pos (zin_i (show 17 + 10 * a + w < 803 by omega) (by decide)), nI_clamp (show 17 + 10 * a + w < 2 ^ 31 by omega), nI_1, e1]
    · rw [e3 k]
      rw [zsf_s]
      refine congrFun (congrArg (zsf a U d (i + 1)) (funext fun k => ?_)) k
      show (zup g 223 (17 + 10 * a + w) (g 223 (17 + 10 * a + w) + 1)) 223 (17 + k) = if k = a * 10 + (U i).toNatClampNeg then g 223 (17 + k) + 1 else g 223 (17 + k)
      rw [zup_e, w2, nI_clamp (by omega)]
      by_cases q : k = a * 10 + w
      · rw [if_pos q, if_pos (by omega), show 17 + 10 * a + w = 17 + k by omega]
      · rw [if_neg q, if_neg (by omega)]
