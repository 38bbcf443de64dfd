-- ===== plan =====
/-- can one pay for a set, week by week -/
def zcp (κ : Int32) (r : Nat) (C : Nat → Nat) (set : Nat) : Nat → Nat → Nat → Bool
  | 0, _, _ => true
  | d + 1, i, h => if (if set.testBit i = true then C i else 0) ≤ h then zcp κ r C set d (i + 1) (zhn κ r (h - (if set.testBit i = true then C i else 0))) else false
theorem zcp_s {κ : Int32} {r : Nat} {C : Nat → Nat} {set d i h : Nat} : zcp κ r C set (d + 1) i h = if (if set.testBit i = true then C i else 0) ≤ h then zcp κ r C set d (i + 1) (zhn κ r (h - (if set.testBit i = true then C i else 0))) else false := rfl
theorem f132_39_eq {K r h c i set : Nat} {κ : Int32} {k : Int32 → Int32 → Int32 → Int32 → Int32 → zS → Option (Int32 × zS)} {g : zS} (hr : r ≤ 20) (hh : h ≤ 60) (hc : c ≤ 60) : f132_39 K k (nI set) κ (nI r) (nI i) (nI h) (nI c) g = if c ≤ h then k (nI set) κ (nI r) (nI (zhn κ r (h - c))) (nI (i + 1)) g else some (0, g) := by
  unfold f132_39
  by_cases q : c ≤ h
  · rw [if_pos q, pk_sub q, if_pos (nI_pos' (by omega)), f86_eq (by omega) hr, zbd_s, nI_1]
  · rw [if_neg q, if_neg (fun z => znle.mp z (pk_sneg (by omega) (by omega)))]
theorem f132_lp {K D r set : Nat} {κ : Int32} {C : Nat → Nat} {g : zS} (hD : g 186 4 = nI D) (hD6 : D ≤ 6) (hs : set < 2 ^ 31) (hr : r ≤ 20) (hC : ∀ i, i < D → g 192 i = nI (C i) ∧ C i ≤ 24) : ∀ d i n h, i + d = D → d < n → h ≤ 60 → f132_6 K n (nI set) κ (nI r) (nI h) (nI i) g = some (nI (zcp κ r C set d i h).toNat, g) := by
  intro d
  induction d with
  | zero =>
    intro i n h h1 h2 h3
    obtain ⟨n, rfl⟩ : ∃ q, n = q + 1 := ⟨n - 1, by omega⟩
    rw [f132_6, hD, if_pos (nI_le (by omega) (by omega))]
    rfl
  | succ d ih =>
    intro i n h h1 h2 h3
    obtain ⟨n, rfl⟩ : ∃ q, n = q + 1 := ⟨n - 1, by omega⟩
    obtain ⟨c1, c2⟩ := hC i (by omega)
    rw [f132_6, hD, if_neg (nI_ge (by omega) (by omega)), f64_eq hs (by omega), zbd_s, zcp_s]
    have fin : ∀ c : Nat, c ≤ 24 → f132_39 K (f132_6 K n) (nI set) κ (nI r) (nI i) (nI h) (nI c) g = some (nI (if c ≤ h then zcp κ r C set d (i + 1) (zhn κ r (h - c)) else false).toNat, g) := by
      intro c hc
      rw [f132_39_eq hr h3 (by omega)]
      by_cases q : c ≤ h
      · rw [if_pos q, if_pos q]
        exact ih (i + 1) n _ (by omega) (by omega) zhn_le
      · rw [if_neg q, if_neg q]; rfl
    cases hb : set.testBit i with
    | false =>
      rw [if_pos (by decide), if_neg (show ¬ false = true by decide)]
      exact fin 0 (by omega)
    | true =>
      rw [if_neg (by decide), if_pos rfl, f21_eq (by rw [zl192]; omega) (by rw [zl192]; decide), zbd_s, show g (191 + 1) i = nI (C i) from c1]
      exact fin (C i) c2
def zPl (g0 : zS) (κ : Int32) (r h D : Nat) (set : Nat) : Bool := zcp κ r (fun e => zdC g0 κ (g0 34 0 + nI e) e) set D 0 h
theorem f131_lp {K D r h : Nat} {κ : Int32} {g0 : zS} (hK : 20 ≤ K) (hD6 : D ≤ 6) (hD : g0 186 4 = nI D) (hr : r ≤ 20) (hh : h ≤ 60) (hC24 : ∀ e, e < D → zdC g0 κ (g0 34 0 + nI e) e ≤ 24) : ∀ d i n b (g : zS), i + d = 2 ^ D → d < n → zScr g0 g → (∀ e, e < D → g 192 e = nI (zdC g0 κ (g0 34 0 + nI e) e)) → (∀ e, e < D → g 194 e = zdW g0 e) → g 186 5 = zVw g0 D b → g 186 6 = nI b → ∃ g', f131_13 K n (nI h) κ (nI r) (nI i) g = some ((), g') ∧ zScr g0 g' ∧ g' 186 5 = zVw g0 D (zbs (zPl g0 κ r h D) (zVw g0 D) d i b) ∧ g' 186 6 = nI (zbs (zPl g0 κ r h D) (zVw g0 D) d i b) := by
  have h64 := z2D hD6
  intro d
  induction d with
  | zero =>
    intro i n b g h1 h2 s hc hw h5 h6
    obtain ⟨n, rfl⟩ : ∃ q, n = q + 1 := ⟨n - 1, by omega⟩
    refine ⟨g, ?_, s, h5, h6⟩
    rw [f131_13, s 186 4 (by unfold zKeep; omega), hD, nx_one (by omega), if_pos (nI_le (by omega) (by omega))]
  | succ d ih =>
    intro i n b g h1 h2 s hc hw h5 h6
    obtain ⟨n, rfl⟩ : ∃ q, n = q + 1 := ⟨n - 1, by omega⟩
    have hD' : g 186 4 = nI D := by rw [s 186 4 (by unfold zKeep; omega), hD]
    have cp : f132 K (nI i) (nI h) κ (nI r) g = some (nI (zPl g0 κ r h D i).toNat, g) := f132_lp (K := K) (C := fun e => zdC g0 κ (g0 34 0 + nI e) e) hD' hD6 (by omega) hr (fun e he => ⟨hc e he, hC24 e he⟩) D 0 K h (by omega) (by omega) hh
    rw [f131_13, hD', nx_one (by omega), if_neg (nI_ge (by omega) (by omega)), cp, zbd_s, zbs_s]
    unfold f131_42
    rw [nI_1]
    cases hp : zPl g0 κ r h D i with
    | false =>
      rw [if_pos (by decide), if_neg (fun z => absurd z.1 (by decide))]
      exact ih (i + 1) n b g (by omega) (by omega) s hc hw h5 h6
    | true =>
      obtain ⟨g1, e1, e2, e3, e4, e5, e6⟩ := zoffer (p := true) hK s hD' hD6 (show i < 2 ^ 31 by omega) hw h5 h6 rfl
      rw [if_neg (by decide), e1, zbd_s]
      exact ih (i + 1) n _ g1 (by omega) (by omega) e2 (fun e he => by rw [e3 192 (by decide)]; exact hc e he) (fun e he => by rw [e3 194 (by decide)]; exact hw e he) e5 e6
/-- priceWeekByWeek -/
theorem f130_lp {K n D : Nat} {x κ : Int32} {g0 : zS} (hK : 20 ≤ K) (I : zInv n g0) (hD6 : D ≤ 6) (hD : g0 186 4 = nI D) (hd : ∀ e, e < D → zdM g0 e ≤ 8 ∧ g0 (195 + 3 * e) 1 = nI (zdM g0 e) ∧ g0 234 e = nI (zdM g0 e) ∧ zWds g0 (zdM g0 e) (zdU g0 e) ∧ (∀ i, i < zdM g0 e → zdU g0 e i = g0 233 (8 * e + i))) : ∀ d i k (g : zS), i + d = D → d < k → zScr g0 g → ∃ g', f130_3 K k 4 x κ (nI i) g = some ((), g') ∧ zScr g0 g' ∧ (∀ c, c ≠ 192 → c ≠ 183 → c ≠ 185 → g' c = g c) ∧ ∀ e, e < D → g' 192 e = if i ≤ e then nI (zdC g0 κ (x + nI e) e) else g 192 e := by
  intro d
  induction d with
  | zero =>
    intro i k g h1 h2 s
    obtain ⟨k, rfl⟩ : ∃ q, k = q + 1 := ⟨k - 1, by omega⟩
    refine ⟨g, ?_, s, fun c _ _ _ => rfl, fun e he => by rw [if_neg (by omega)]⟩
    rw [f130_3, s 186 4 (by unfold zKeep; omega), hD, if_pos (nI_le (by omega) (by omega))]
  | succ d ih =>
    intro i k g h1 h2 s
    obtain ⟨k, rfl⟩ : ∃ q, k = q + 1 := ⟨k - 1, by omega⟩
    obtain ⟨m8, m1, m2, Wd, m3⟩ := hd i (by omega)
    obtain ⟨g1, a1, a2, a3, a4⟩ := f59_sp (x := x + nI i) hK I.2.1 s
    obtain ⟨g', e1, e2, e3, e4⟩ := ih (i + 1) k (zup g1 192 i (nI (zdC g0 κ (x + nI i) i))) (by omega) (by omega) (zScr_up a2 (by unfold zKeep; omega))
    refine ⟨g', ?_, e2, fun c q1 q2 q3 => by rw [e3 c q1 q2 q3, zup_c q1, a3 c q2 q3], fun e he => ?_⟩
    · rw [f130_3, s 186 4 (by unfold zKeep; omega), hD, if_neg (nI_ge (by omega) (by omega)), a1, zbd_s, f120_eq (by omega), zbd_s, f60_sp hK I.2.1 (zLn_dr a2 (by omega) m8 m1) Wd a4, zbd_s, f14_eq (by rw [zl192]; omega) (by rw [zl192]; decide), zbd_s, nI_1]
      exact e1
    · rw [e4 e he, zup_e]
      by_cases q : e = i
      · rw [if_neg (by omega), if_pos q, if_pos (by omega), q]
      · rw [if_neg q]
        by_cases q2 : i + 1 ≤ e
        · rw [if_pos q2, if_pos (by omega)]
        · rw [if_neg q2, if_neg (by omega), a3 192 (by decide) (by decide)]
-- ===== the reference: can he pay =====
theorem f221_dead {K n D a set kk : Nat} {g0 : zS} (hK : 20 ≤ K) (I : zInv n g0) (ha : a < 4) (hs : set < 2 ^ 31) (hD6 : D ≤ 6) (hD : g0 222 21 = nI D) (hk : g0 230 a = nI kk) (hk3 : kk ≤ 3) (hd : ∀ e, e < D → zdM g0 e ≤ 8 ∧ g0 (195 + 3 * e) 1 = nI (zdM g0 e) ∧ g0 234 e = nI (zdM g0 e) ∧ zWds g0 (zdM g0 e) (zdU g0 e) ∧ (∀ i, i < zdM g0 e → zdU g0 e i = g0 233 (8 * e + i))) : ∀ d i k (g : zS) (h : Int32), i + d = D → d < k → zScr g0 g → ∃ g', f221_15 K k (nI a) (nI set) h 0 (nI i) g = some (0, g') ∧ zScr g0 g' := by
  intro d
  induction d with
  | zero =>
    intro i k g h h1 h2 s
    obtain ⟨k, rfl⟩ : ∃ q, k = q + 1 := ⟨k - 1, by omega⟩
    refine ⟨g, ?_, s⟩
    rw [f221_15, zScr_222 s (by omega), hD, if_pos (nI_le (by omega) (by omega)), if_pos (Or.inl rfl)]
  | succ d ih =>
    intro i k g h h1 h2 s
    obtain ⟨k, rfl⟩ : ∃ q, k = q + 1 := ⟨k - 1, by omega⟩
    obtain ⟨m8, m1, m2, Wd, m3⟩ := hd i (by omega)
    obtain ⟨g1, u1, u2, u3, -⟩ := f217_sp hK s (show i < 6 by omega) m8 m2 m3
    rw [f221_15, zScr_222 s (by omega), hD, if_neg (nI_ge (by omega) (by omega)), u1, zbd_s, f177_eq hs (by omega), zbd_s]
    have fin : ∀ (c : Int32) (g2 : zS), zScr g0 g2 → ∃ g', f221_62 K (f221_15 K k) (nI a) (nI set) h 0 (nI i) c g2 = some (0, g') ∧ zScr g0 g' := by
      intro c g2 s2
      unfold f221_62 f221_79 f221_80
      obtain ⟨v, hv⟩ := f192_any (K := K) (x := h - c) (g := g2) ha
      obtain ⟨g', e1, e2⟩ := ih (i + 1) k g2 v (by omega) (by omega) s2
      refine ⟨g', ?_, e2⟩
      rw [if_pos rfl, hv, zbd_s, nI_1]
      exact e1
    cases hb : set.testBit i with
    | false =>
      rw [if_pos (by decide)]
      exact fin 0 g1 u2
    | true =>
      obtain ⟨g2, v1, v2, -⟩ := f174_sp (x := g0 34 0 + nI i) hK I.2.1 u2 Wd u3 hk3
      rw [if_neg (by decide), if_pos (zin_i ha (by decide)), if_pos (show zin (0 : Int32) 803 by decide), nI_clamp (show a < 2 ^ 31 by omega), zwk I u2, zScr_c u2 (c := 230) (by omega), hk, v1, zbd_s]
      exact fin _ g2 v2
theorem f221_lp {K n D a set kk r : Nat} {g0 : zS} (hK : 20 ≤ K) (I : zInv n g0) (ha : a < 4) (hs : set < 2 ^ 31) (hD6 : D ≤ 6) (hD : g0 222 21 = nI D) (hk : g0 230 a = nI kk) (hk3 : kk ≤ 3) (hr1 : g0 222 15 = nI r) (hr : r ≤ 20) (hd : ∀ e, e < D → zdM g0 e ≤ 8 ∧ g0 (195 + 3 * e) 1 = nI (zdM g0 e) ∧ g0 234 e = nI (zdM g0 e) ∧ zWds g0 (zdM g0 e) (zdU g0 e) ∧ (∀ i, i < zdM g0 e → zdU g0 e i = g0 233 (8 * e + i))) : ∀ d i k (g : zS) h, i + d = D → d < k → h ≤ 60 → zScr g0 g → ∃ g', f221_15 K k (nI a) (nI set) (nI h) 1 (nI i) g = some (nI (zcp (nI kk) r (fun e => zdC g0 (nI kk) (g0 34 0 + nI e) e) set d i h).toNat, g') ∧ zScr g0 g' := by
  intro d
  induction d with
  | zero =>
    intro i k g h h1 h2 h3 s
    obtain ⟨k, rfl⟩ : ∃ q, k = q + 1 := ⟨k - 1, by omega⟩
    refine ⟨g, ?_, s⟩
    rw [f221_15, zScr_222 s (by omega), hD, if_pos (nI_le (by omega) (by omega)), if_pos (Or.inr rfl)]
    rfl
  | succ d ih =>
    intro i k g h h1 h2 h3 s
    obtain ⟨k, rfl⟩ : ∃ q, k = q + 1 := ⟨k - 1, by omega⟩
    obtain ⟨m8, m1, m2, Wd, m3⟩ := hd i (by omega)
    obtain ⟨g1, u1, u2, u3, -⟩ := f217_sp hK s (show i < 6 by omega) m8 m2 m3
    rw [f221_15, zScr_222 s (by omega), hD, if_neg (nI_ge (by omega) (by omega)), u1, zbd_s, f177_eq hs (by omega), zbd_s, zcp_s]
    have fin : ∀ (c : Nat) (g2 : zS), c ≤ 24 → zScr g0 g2 → ∃ g', f221_62 K (f221_15 K k) (nI a) (nI set) (nI h) 1 (nI i) (nI c) g2 = some (nI (if c ≤ h then zcp (nI kk) r (fun e => zdC g0 (nI kk) (g0 34 0 + nI e) e) set d (i + 1) (zhn (nI kk) r (h - c)) else false).toNat, g') ∧ zScr g0 g' := by
      intro c g2 hc s2
      unfold f221_62 f221_79 f221_80
      rw [if_neg (show ¬ (1 : Int32) = 0 by decide)]
      by_cases q : c ≤ h
      · obtain ⟨g', e1, e2⟩ := ih (i + 1) k g2 (zhn (nI kk) r (h - c)) (by omega) (by omega) zhn_le s2
        refine ⟨g', ?_, e2⟩
        rw [if_neg (nI_nlt q (by omega)), if_pos q, pk_sub q, f192_eq (κ := nI kk) ha (by rw [zScr_c s2 (by omega)]; exact hk) (by rw [zScr_222 s2 (by omega)]; exact hr1) (by omega) hr, zbd_s, nI_1]
        exact e1
      · obtain ⟨v, hv⟩ := f192_any (K := K) (x := nI h - nI c) (g := g2) ha
        obtain ⟨g', e1, e2⟩ := f221_dead hK I ha hs hD6 hD hk hk3 hd d (i + 1) k g2 v (by omega) (by omega) s2
        refine ⟨g', ?_, e2⟩
        rw [if_pos (nI_lt (by omega) (by omega)), if_neg q, hv, zbd_s, nI_1]
        exact e1
    cases hb : set.testBit i with
    | false =>
      rw [if_pos (by decide), if_neg (show ¬ false = true by decide)]
      exact fin 0 g1 (by omega) u2
    | true =>
      obtain ⟨g2, v1, v2, -⟩ := f174_sp (x := g0 34 0 + nI i) hK I.2.1 u2 Wd u3 hk3
      rw [if_neg (by decide), if_pos rfl, if_pos (zin_i ha (by decide)), if_pos (show zin (0 : Int32) 803 by decide), nI_clamp (show a < 2 ^ 31 by omega), zwk I u2, zScr_c u2 (c := 230) (by omega), hk, v1, zbd_s]
      exact fin _ g2 (zPr_le m8) v2
theorem f220_lp {K n D a kk r h : Nat} {x2 : Int32} {g0 : zS} (hK : 20 ≤ K) (I : zInv n g0) (ha : a < 4) (hD6 : D ≤ 6) (hD : g0 222 21 = nI D) (hk : g0 230 a = nI kk) (hk3 : kk ≤ 3) (hr1 : g0 222 15 = nI r) (hr : r ≤ 20) (hh : g0 223 (1 + a) = nI h) (hh60 : h ≤ 60) (hd : ∀ e, e < D → zdM g0 e ≤ 8 ∧ g0 (195 + 3 * e) 1 = nI (zdM g0 e) ∧ g0 234 e = nI (zdM g0 e) ∧ zWds g0 (zdM g0 e) (zdU g0 e) ∧ (∀ i, i < zdM g0 e → zdU g0 e i = g0 233 (8 * e + i))) : ∀ d i q b (g : zS), i + d = 2 ^ D → d < q → b < i → zScr g0 g → ∃ g', f220_29 K q (nI a) x2 (nI b) (nI i) g = some (if x2 = 0 then zVw g0 D (zbs (zPl g0 (nI kk) r h D) (zVw g0 D) d i b) else nI (zbs (zPl g0 (nI kk) r h D) (zVw g0 D) d i b), g') ∧ zScr g0 g' := by
  have h64 := z2D hD6
  intro d
  induction d with
  | zero =>
    intro i q b g h1 h2 h3 s
    obtain ⟨q, rfl⟩ : ∃ z, q = z + 1 := ⟨q - 1, by omega⟩
    rw [f220_29, zScr_222 s (by omega), hD, nx_one (by omega), if_pos (nI_le (by omega) (by omega))]
    by_cases z : x2 = 0
    · obtain ⟨g1, e1, e2⟩ := f219_sp hK I hD6 hD (show b < 2 ^ 31 by omega) hd s
      refine ⟨g1, ?_, e2⟩
      rw [if_neg (fun y => y z), e1, zbd_s, if_pos z]
      rfl
    · refine ⟨g, ?_, s⟩
      rw [if_pos z, if_neg z]
      rfl
  | succ d ih =>
    intro i q b g h1 h2 h3 s
    obtain ⟨q, rfl⟩ : ∃ z, q = z + 1 := ⟨q - 1, by omega⟩
    obtain ⟨g1, e1, e2⟩ := f221_lp hK I ha (show i < 2 ^ 31 by omega) hD6 hD hk hk3 hr1 hr hd D 0 K g h (by omega) (by omega) hh60 s
    have e1 : f221 K (nI a) (nI i) g = some (nI (zPl g0 (nI kk) r h D i).toNat, g1) := by
      unfold f221
      rw [nI_lit1, nI_add, if_pos (zin_i (show 1 + a < 803 by omega) (by decide)), nI_clamp (show 1 + a < 2 ^ 31 by omega), zScr_c s (c := 223) (by omega), hh]
      exact e1
    rw [f220_29, zScr_222 s (by omega), hD, nx_one (by omega), if_neg (nI_ge (by omega) (by omega)), e1, zbd_s, zbs_s]
    unfold f220_69 f220_70
    rw [nI_1]
    cases hp : zPl g0 (nI kk) r h D i with
    | false =>
      rw [if_pos (by decide), if_neg (show ¬ (false = true ∧ zVw g0 D b < zVw g0 D i) from fun z => absurd z.1 (by decide))]
      exact ih (i + 1) q b g1 (by omega) (by omega) (by omega) e2
    | true =>
      obtain ⟨g2, e3, e4⟩ := f219_sp hK I hD6 hD (show i < 2 ^ 31 by omega) hd e2
      obtain ⟨g3, e5, e6⟩ := f219_sp hK I hD6 hD (show b < 2 ^ 31 by omega) hd e4
      rw [if_neg (by decide), e3, zbd_s, e5, zbd_s]
      by_cases y : zVw g0 D b < zVw g0 D i
      · rw [if_neg (show ¬ zss (zdW g0) i D ≤ zss (zdW g0) b D from fun w => znle.mp w y), if_pos (show true = true ∧ zVw g0 D b < zVw g0 D i from ⟨rfl, y⟩)]
        exact ih (i + 1) q i g3 (by omega) (by omega) (by omega) e6
      · rw [if_pos (show zss (zdW g0) i D ≤ zss (zdW g0) b D from znle.mpr y), if_neg (show ¬ (true = true ∧ zVw g0 D b < zVw g0 D i) from fun w => y w.2)]
        exact ih (i + 1) q b g3 (by omega) (by omega) (by omega) e6
theorem zp_plan {K : Nat} (hK : 100 ≤ K) (n : Nat) (x y : Int32) : zPair (zInv n) (zInv (n + 1)) (f129 K x y) (f220 K x y) := by
  refine zPair_scr fun g I => ?_
  obtain ⟨D, D6, q1, q2, hd⟩ := zdr2 I
  obtain ⟨p, r, p4, r20, b1, b2, r1, r2, b3⟩ := zpe I
  have h64 := z2D D6
  by_cases hx : zwi x 0 (nI p - 1) = 0
  · refine ⟨-2, zR_eq (g := g) ?_ ⟨rfl, zScr_0⟩, fun g1 s1 => zR_eq (g := g1) ?_ ⟨rfl, s1⟩⟩
    · unfold f129
      rw [f53_s zScr_0 b1, zbd_s, if_neg (fun q => q hx)]
    · unfold f220
      rw [f170_s s1 b2, zbd_s, if_neg (fun q => q hx)]
  obtain ⟨a, a1, rfl⟩ := zwi_cnt (by omega) hx
  by_cases hy : zwi y 0 1 = 0
  · refine ⟨-3, zR_eq (g := g) ?_ ⟨rfl, zScr_0⟩, fun g1 s1 => zR_eq (g := g1) ?_ ⟨rfl, s1⟩⟩
    · unfold f129
      rw [f53_s zScr_0 b1, zbd_s, if_pos hx, f12_eq, zbd_s, if_neg (fun q => q hy)]
    · unfold f220
      rw [f170_s s1 b2, zbd_s, if_pos hx, i64_0, i64_1, f146_eq, zbd_s, if_neg (fun q => q hy)]
  obtain ⟨k1, ⟨κ, k2, k3⟩, -⟩ := b3 a a1
  obtain ⟨x1, -, -, -, h, h60, hh⟩ := I.2.2.1.2.2.1 a (by omega)
  have hh : g 36 a = nI h := hh
  have hh2 : g 223 (1 + a) = nI h := by
    rw [← hh]
    exact (x1.trans (by rw [Nat.zero_add])).symm
  obtain ⟨dd, hdd⟩ := z2D1 D
  refine ⟨if y = 0 then zVw g D (zbs (zPl g (nI κ) r h D) (zVw g D) dd 1 0) else nI (zbs (zPl g (nI κ) r h D) (zVw g D) dd 1 0), ?_, fun g1 s1 => ?_⟩
  · obtain ⟨g1, u1, u2, u3, u4⟩ := f124_lp (K := K) (by omega) I D6 q1 hd D 0 K g (by omega) (by omega) zScr_0
    obtain ⟨g3, d1, d2, d3, d4⟩ := f130_lp (K := K) (x := g 34 0) (κ := nI κ) (by omega) I D6 q1 hd D 0 K g1 (by omega) (by omega) u2
    have s4 : zScr g (zup (zup g3 186 5 0) 186 6 0) := zScr_up (zScr_up d2 (by unfold zKeep; omega)) (by unfold zKeep; omega)
    obtain ⟨g5, e1, e2, e3, e4⟩ := f131_lp (K := K) (r := r) (h := h) (κ := nI κ) (by omega) D6 q1 r20 h60 (fun e he => zPr_le (hd e he).1) (2 ^ D) 0 K 0 (zup (zup g3 186 5 0) 186 6 0) (by omega) (by omega) s4 (fun e he => by rw [zup_c (by decide), zup_c (by decide), d4 e he, if_pos (by omega)]) (fun e he => by rw [zup_c (by decide), zup_c (by decide), d3 194 (by decide) (by decide) (by decide), u4 e he, if_pos (by omega)]) (by
      show (zup (zup g3 186 5 0) 186 6 0) 186 5 = zss (zdW g) 0 D
      rw [zup_k (by decide), zup_s, zss_0]) (by rw [zup_s]; rfl)
    rw [hdd, zbs_0] at e3 e4
    refine zR_eq (g := g5) ?_ ⟨rfl, e2⟩
    have h36 : g3 (35 + 1) a = nI h := by
      show g3 36 a = nI h
      rw [zScr_c d2 (by omega)]; exact hh
    unfold f129 f124 f130 f131
    rw [f53_s zScr_0 b1, zbd_s, if_pos hx, f12_eq, zbd_s, if_pos hy, show f124_2 K K 4 0 g = some ((), g1) from u1, zbd_s, f54_s u2 (by omega), zbd_s, k3, show g1 34 0 = g 34 0 by rw [u3 34 (by decide)], show f130_3 K K 4 (g 34 0) (nI κ) 0 g1 = some ((), g3) from d1, zbd_s, f21_eq (by rw [zl36]; omega) (by rw [zl36]; decide), zbd_s, h36, f54_s d2 (by omega), zbd_s, k3, zScr_c d2 (c := 4) (by omega), r1, show f131_13 K K (nI h) (nI κ) (nI r) 0 (zup (zup g3 186 5 0) 186 6 0) = some ((), g5) from e1, zbd_s, e3, e4]
    by_cases z : y = 0
    · rw [if_neg (fun q => q z), if_pos z]
    · rw [if_pos z, if_neg z]
  · obtain ⟨g2, e1, e2⟩ := f220_lp (K := K) (x2 := y) (by omega) I (show a < 4 by omega) D6 q2 (k1.trans k3) k2 r2 r20 hh2 h60 hd dd 1 K 0 g1 (by omega) (by omega) (by omega) s1
    refine zR_eq (g := g2) ?_ ⟨rfl, e2⟩
    unfold f220
    rw [f170_s s1 b2, zbd_s, if_pos hx, i64_0, i64_1, f146_eq, zbd_s, if_pos hy]
    exact e1
