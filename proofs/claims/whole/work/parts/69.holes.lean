-- ===== holes =====
def zHq (g0 : zS) (m W h : Nat) (c : Int32) (v : Nat) : Bool := decide (zGd (zQ g0 (g0 34 0) m (zfi (g0 182) (zdgt W h v))) m) && decide (nI (zPr g0 0 (g0 34 0) m (zfi (g0 182) (zdgt W h v))) = c)
theorem zfi_wd {g0 : zS} {m W h v : Nat} (Wd : zWds g0 m (g0 182)) (hw : g0 4 0 = nI W) (hW : W ≤ 10) (hW0 : 0 < W ∨ h = 0) (hh : h = zhc (g0 182) m) : zWds g0 m (zfi (g0 182) (zdgt W h v)) := by
  intro i hi
  unfold zfi
  by_cases q : g0 182 i = -1
  · have := zhc_lt hi q
    have hWp : 0 < W := by omega
    have hlt : v / W ^ (h - 1 - zhc (g0 182) i) % W < W := Nat.mod_lt _ hWp
    rw [if_pos q]
    refine Or.inr ⟨v / W ^ (h - 1 - zhc (g0 182) i) % W, by omega, rfl, ?_⟩
    rw [hw]
    exact nI_lt hlt (by omega)
  · rw [if_neg q]
    exact Wd i hi
theorem zl219 : zlen (217 + 1 + 1) = 8 := by decide +kernel
theorem zW3 {W h : Nat} (hW : W ≤ 10) (h3 : h ≤ 3) : W ^ h ≤ 1000 := by
  have h1 : W ^ h ≤ 10 ^ h := Nat.pow_le_pow_left hW h
  have h2 : 10 ^ h ≤ 10 ^ 3 := Nat.pow_le_pow_right (by decide) h3
  omega
theorem zlu_gt {Q : Nat → Bool} : ∀ {d v c f : Nat}, (¬ c = 0 → f < v) → ¬ (zlu Q d v c f).1 = 0 → (zlu Q d v c f).2 < v + d := by
  intro d
  induction d with
  | zero => intro v c f h h2; exact h h2
  | succ d ih =>
    intro v c f h
    rw [zlu_s, show v + (d + 1) = v + 1 + d by omega]
    by_cases q : Q v = true
    · rw [if_pos q]
      refine ih fun _ => ?_
      by_cases z : c = 0
      · rw [if_pos z]; omega
      · rw [if_neg z]; have := h z; omega
    · rw [if_neg q]
      exact ih fun z => by have := h z; omega
/-- what the class's loop does from filling v on -/
def zHl (K m W h : Nat) (c : Int32) (g0 : zS) (v : Nat) (R : Nat → Nat → Nat × Nat) : Prop := ∀ q cnt f (g : zS), W ^ h < v + q → cnt ≤ v → zScr g0 g → zKin g0 (g0 34 0) g → zLn 214 m (zfi (g0 182) (zdgt W h v)) g → g 213 6 = nI cnt → (¬ cnt = 0 → zLn 217 m (zfi (g0 182) (zdgt W h f)) g) → ∃ g', f114_65 K q 180 (nI W) c (nI h) 1 (nI v) g = some ((), g') ∧ zScr g0 g' ∧ g' 213 6 = nI (R cnt f).1 ∧ (¬ (R cnt f).1 = 0 → zLn 217 m (zfi (g0 182) (zdgt W h (R cnt f).2)) g')
theorem f114_65_st {K n m W h v : Nat} {c : Int32} {g0 : zS} {R : Nat → Nat → Nat × Nat} (hK : 20 ≤ K) (I : zInv n g0) (hm : m ≤ 8) (l1 : g0 180 1 = nI m) (Wd : zWds g0 m (g0 182)) (hw : g0 4 0 = nI W) (hW : W ≤ 10) (hW0 : 0 < W ∨ h = 0) (hh : h = zhc (g0 182) m) (h3 : h ≤ 3) (hv : v < W ^ h) (nxt : v + 1 < W ^ h → zHl K m W h c g0 (v + 1) R) (lst : ¬ v + 1 < W ^ h → R = fun cnt f => (cnt, f)) : zHl K m W h c g0 v (fun cnt f => if zHq g0 m W h c v = true then R (cnt + 1) (if cnt = 0 then v else f) else R cnt f) := by
  have hW3 := zW3 hW h3
  intro q cnt f g h2 h5 s kn L h6 h7
  show ∃ g', f114_65 K q 180 (nI W) c (nI h) 1 (nI v) g = some ((), g') ∧ zScr g0 g' ∧ g' 213 6 = nI (if zHq g0 m W h c v = true then R (cnt + 1) (if cnt = 0 then v else f) else R cnt f).1 ∧ (¬ (if zHq g0 m W h c v = true then R (cnt + 1) (if cnt = 0 then v else f) else R cnt f).1 = 0 → zLn 217 m (zfi (g0 182) (zdgt W h (if zHq g0 m W h c v = true then R (cnt + 1) (if cnt = 0 then v else f) else R cnt f).2)) g')
  obtain ⟨q, rfl⟩ : ∃ z, q = z + 1 := ⟨q - 1, by omega⟩
  have Wv := zfi_wd (v := v) Wd hw hW hW0 hh
  -- on to the next filling, with a new count
  have go : ∀ (cnt2 f2 : Nat) (g2 : zS), cnt2 ≤ v + 1 → zScr g0 g2 → zKin g0 (g0 34 0) g2 → zLn 214 m (zfi (g0 182) (zdgt W h v)) g2 → g2 213 6 = nI cnt2 → (¬ cnt2 = 0 → zLn 217 m (zfi (g0 182) (zdgt W h f2)) g2) → ∃ g', f114_131 K (f114_65 K q) 180 (nI W) c (nI h) (nI v) g2 = some ((), g') ∧ zScr g0 g' ∧ g' 213 6 = nI (R cnt2 f2).1 ∧ (¬ (R cnt2 f2).1 = 0 → zLn 217 m (zfi (g0 182) (zdgt W h (R cnt2 f2).2)) g') := by
    intro cnt2 f2 g2 u1 u2 u3 u4 u5 u6
    obtain ⟨g3, e1, e2, e3, e4⟩ := f117_lp (K := K) (U := g0 182) hK hm hh h3 hW hW0 hv (fun g sg => zLn_180 sg hm l1) h K (zdgt W h v) g2 (Nat.le_refl _) (by omega) u2 u4 (fun k hk => by rw [if_pos hk]) (by rw [Nat.sub_self, Nat.pow_zero]; omega)
    have e1 : f117 K 180 (nI h) (nI W) g2 = some (nI (decide (v + 1 < W ^ h)).toNat, g3) := by
      unfold f117
      rw [zpr1_0]
      exact e1
    have kn3 : zKin g0 (g0 34 0) g3 := ⟨by rw [e3 183 (by decide)]; exact u3.1, fun a q1 q2 => by rw [e3 185 (by decide)]; exact u3.2 a q1 q2⟩
    have b3 : g3 213 6 = nI cnt2 := by rw [e3 213 (by decide)]; exact u5
    have L3 : ¬ cnt2 = 0 → zLn 217 m (zfi (g0 182) (zdgt W h f2)) g3 := fun z => by
      obtain ⟨x1, x2, x3, x4⟩ := u6 z
      exact ⟨x1, x2, by rw [e3 217 (by decide)]; exact x3, fun i hi => by rw [e3 _ (by decide)]; exact x4 i hi⟩
    unfold f114_131
    rw [e1, zbd_s, nI_1]
    by_cases y : v + 1 < W ^ h
    · rw [decide_eq_true y]
      exact nxt y q cnt2 f2 g3 (by omega) u1 e2 kn3 (e4 y) b3 L3
    · rw [decide_eq_false y, lst y]
      obtain ⟨q, rfl⟩ : ∃ z, q = z + 1 := ⟨q - 1, by omega⟩
      refine ⟨g3, ?_, e2, b3, L3⟩
      rw [f114_65]
      by_cases z : 1000 ≤ nI (v + 1)
      · rw [if_pos z]
      · rw [if_neg z, if_pos (by decide)]
  rw [f114_65, show (1000 : Int32) = nI 1000 from rfl, if_neg (nI_ge (by omega) (by omega)), if_neg (show ¬ (1 : Int32) = 0 by decide), f74_eq hK L Wv kn, zbd_s]
  by_cases y1 : zGd (zQ g0 (g0 34 0) m (zfi (g0 182) (zdgt W h v))) m
  · rw [decide_eq_true y1, if_neg (show ¬ nI true.toNat = 0 by decide), f60_sp hK I.2.1 L Wv kn, zbd_s]
    by_cases y2 : nI (zPr g0 0 (g0 34 0) m (zfi (g0 182) (zdgt W h v))) = c
    · have hq : zHq g0 m W h c v = true := by unfold zHq; rw [decide_eq_true y1, decide_eq_true y2]; rfl
      rw [if_neg (fun w => w y2), if_pos hq, h6]
      unfold f114_121
      by_cases z : cnt = 0
      · obtain ⟨g2, d1, d2, d3, d4, d5⟩ := f102_sp (K := K) (o0 := 217) (o1 := 214) (m := m) (g := g) hK zl219 zl216 (by decide) (by decide) L.2.2.1
        have s2 : zScr g0 g2 := fun c k hk => by
          by_cases q1 : c = 219
          · unfold zKeep at hk; omega
          by_cases q2 : c = 217
          · unfold zKeep at hk; omega
          rw [d2 c q1 q2]
          exact s c k hk
        rw [if_neg (fun w => w (by rw [z]; rfl)), d1, zbd_s, d2 213 (by decide) (by decide), h6, nI_1, if_pos z]
        refine go (cnt + 1) v _ (by omega) (zScr_up s2 (by unfold zKeep; omega)) ⟨by rw [zup_c (by decide), d2 183 (by decide) (by decide)]; exact kn.1, fun a q1 q2 => by rw [zup_c (by decide), d2 185 (by decide) (by decide)]; exact kn.2 a q1 q2⟩ ⟨L.1, L.2.1, by rw [zup_c (by decide), d2 214 (by decide) (by decide)]; exact L.2.2.1, fun i hi => by rw [zup_c (by decide), d2 (214 + 2) (by decide) (by decide)]; exact L.2.2.2 i hi⟩ (zup_s _ _ _ _) (fun _ => ⟨zl219, hm, by rw [zup_c (by decide)]; exact d4, fun i hi => by rw [zup_c (by decide), d5 i (by omega)]; exact L.2.2.2 i hi⟩)
      · rw [if_pos (nI_ne0 (by omega) (by omega)), h6, nI_1, if_neg z]
        exact go (cnt + 1) f _ (by omega) (zScr_up s (by unfold zKeep; omega)) ⟨by rw [zup_c (by decide)]; exact kn.1, fun a q1 q2 => by rw [zup_c (by decide)]; exact kn.2 a q1 q2⟩ ⟨L.1, L.2.1, by rw [zup_c (by decide)]; exact L.2.2.1, fun i hi => by rw [zup_c (by decide)]; exact L.2.2.2 i hi⟩ (zup_s _ _ _ _) (fun _ => by
          obtain ⟨x1, x2, x3, x4⟩ := h7 z
          exact ⟨x1, x2, by rw [zup_c (by decide)]; exact x3, fun i hi => by rw [zup_c (by decide)]; exact x4 i hi⟩)
    · have hq : zHq g0 m W h c v = false := by unfold zHq; rw [decide_eq_false y2, Bool.and_false]
      rw [if_pos y2, if_neg (show ¬ zHq g0 m W h c v = true by rw [hq]; decide)]
      exact go cnt f g (by omega) s kn L h6 h7
  · have hq : zHq g0 m W h c v = false := by unfold zHq; rw [decide_eq_false y1, Bool.false_and]
    rw [decide_eq_false y1, if_pos (show nI false.toNat = 0 by decide), if_neg (show ¬ zHq g0 m W h c v = true by rw [hq]; decide)]
    exact go cnt f g (by omega) s kn L h6 h7
theorem f114_65_lp {K n m W h : Nat} {c : Int32} {g0 : zS} (hK : 20 ≤ K) (I : zInv n g0) (hm : m ≤ 8) (l1 : g0 180 1 = nI m) (Wd : zWds g0 m (g0 182)) (hw : g0 4 0 = nI W) (hW : W ≤ 10) (hW0 : 0 < W ∨ h = 0) (hh : h = zhc (g0 182) m) (h3 : h ≤ 3) : ∀ d v, v + (d + 1) = W ^ h → zHl K m W h c g0 v (fun cnt f => zlu (zHq g0 m W h c) (d + 1) v cnt f) := by
  intro d
  induction d with
  | zero =>
    intro v h1
    exact f114_65_st (R := fun cnt f => (cnt, f)) hK I hm l1 Wd hw hW hW0 hh h3 (by omega) (fun z => by omega) (fun _ => rfl)
  | succ d ih =>
    intro v h1
    exact f114_65_st (R := fun cnt f => zlu (zHq g0 m W h c) (d + 1) (v + 1) cnt f) hK I hm l1 Wd hw hW hW0 hh h3 (by omega) (fun _ => ih (v + 1) (by omega)) (fun z => by omega)
-- ===== the reference =====
theorem f213_lp {K m W h v : Nat} {U : Nat → Int32} {g0 : zS} (hm : m ≤ 8) (hU : ∀ i, i < m → g0 232 i = U i) (hh : h = zhc U m) (hw : g0 222 9 = nI W) (hW : W ≤ 10) (hW0 : 0 < W ∨ h = 0) (hv : v < 2000) : ∀ r q (g : zS), r ≤ m → r < q → zScr g0 g → g 222 29 = nI m → (∀ i, i < m → g 235 i = if r ≤ i then zfi U (zdgt W h v) i else U i) → ∃ g', f213_13 K q (nI (v / W ^ (h - zhc U r))) (zpr1 r) g = some ((), g') ∧ zScr g0 g' ∧ zTr m (zfi U (zdgt W h v)) g' := by
  intro r
  induction r with
  | zero =>
    intro q g h1 h2 s h3 h4
    obtain ⟨q, rfl⟩ : ∃ z, q = z + 1 := ⟨q - 1, by omega⟩
    refine ⟨g, ?_, s, hm, h3, fun i hi => by rw [h4 i hi, if_pos (by omega)]⟩
    rw [f213_13, if_pos (by decide)]
  | succ r ih =>
    intro q g h1 h2 s h3 h4
    obtain ⟨q, rfl⟩ : ∃ z, q = z + 1 := ⟨q - 1, by omega⟩
    have e0 : zpr1 (r + 1) = nI r := by unfold zpr1; rw [if_neg (by omega), show r + 1 - 1 = r by omega]
    rw [f213_13]
    unfold f213_46
    rw [zpr1_m, e0, if_neg (nI_pos (by omega)), if_pos (zin_i (show r < 8 by omega) (by decide)), nI_clamp (show r < 2 ^ 31 by omega), zScr_c s (c := 232) (by omega), hU r (by omega)]
    by_cases hu : U r = -1
    · have hlt := zhc_lt (p := m) (by omega) hu
      have hWp : 0 < W := by omega
      have hs1 : zhc U (r + 1) = zhc U r + 1 := by rw [zhc_s, if_pos hu]
      have hx : v / W ^ (h - zhc U (r + 1)) < 2 ^ 31 := Nat.lt_of_le_of_lt (Nat.div_le_self _ _) (by omega)
      have hdig : v / W ^ (h - zhc U (r + 1)) % W = v / W ^ (h - 1 - zhc U r) % W := by rw [hs1, show h - (zhc U r + 1) = h - 1 - zhc U r by omega]
      have hnext : v / W ^ (h - zhc U (r + 1)) / W = v / W ^ (h - zhc U r) := by
        rw [Nat.div_div_eq_div_mul, ← Nat.pow_succ, hs1, show (h - (zhc U r + 1)).succ = h - zhc U r by omega]
      have w0 : ¬ nI W = 0 := nI_ne0 hWp (by omega)
      rw [if_neg (fun z => z hu), zScr_222 s (by omega), hw, if_pos w0, if_pos (zin_i (show r < 8 by omega) (by decide)), pk_rem hx hWp (by omega)]
      rw [show (zup g 235 r (nI (v / W ^ (h - zhc U (r + 1)) % W))) 222 9 = nI W by rw [zup_c (by decide), zScr_222 s (by omega), hw], if_pos w0, pk_div hx hWp (by omega), hnext]
      refine ih q _ (by omega) (by omega) (zScr_up s (by unfold zKeep; omega)) (by rw [zup_c (by decide)]; exact h3) (fun i hi => ?_)
      rw [zup_e]
      by_cases q1 : i = r
      · rw [if_pos q1, if_pos (by omega), q1]
        unfold zfi
        rw [if_pos hu, hdig]
        rfl
      · rw [if_neg q1, h4 i hi]
        by_cases q2 : r + 1 ≤ i
        · rw [if_pos q2, if_pos (by omega)]
        · rw [if_neg q2, if_neg (by omega)]
    · have hs1 : zhc U (r + 1) = zhc U r := by rw [zhc_s, if_neg hu]; rfl
      rw [if_pos hu, hs1]
      refine ih q g (by omega) (by omega) s h3 (fun i hi => ?_)
      rw [h4 i hi]
      by_cases q2 : r + 1 ≤ i
      · rw [if_pos q2, if_pos (by omega)]
      · rw [if_neg q2]
        by_cases q3 : r ≤ i
        · rw [if_pos q3, show i = r by omega]
          unfold zfi
          rw [if_neg hu]
        · rw [if_neg q3]
theorem f213_sp {K m W h v : Nat} {g0 g : zS} (hK : 20 ≤ K) (hm : m ≤ 8) (l2 : g0 222 18 = nI m) (l3 : ∀ i, i < m → g0 182 i = g0 232 i) (hh : h = zhc (g0 182) m) (hw : g0 222 9 = nI W) (hW : W ≤ 10) (hW0 : 0 < W ∨ h = 0) (hv : v < 2000) (s : zScr g0 g) : ∃ g', f213 K (nI v) g = some ((), g') ∧ zScr g0 g' ∧ zTr m (zfi (g0 182) (zdgt W h v)) g' := by
  obtain ⟨g1, e1, e2, e3, e4, e5⟩ := f173_sp hK s hm l2 l3
  obtain ⟨g2, d1, d2, d3⟩ := f213_lp (K := K) (U := g0 182) hm (fun i hi => (l3 i hi).symm) hh hw hW hW0 hv m K g1 (Nat.le_refl _) (by omega) e2 e3.2.1 (fun i hi => by rw [if_neg (by omega)]; exact e3.2.2 i hi)
  rw [← hh, Nat.sub_self, Nat.pow_zero, Nat.div_one] at d1
  refine ⟨g2, ?_, d2, d3⟩
  unfold f213
  rw [e1, zbd_s, zScr_222 e2 (by omega), l2, zpr1_0]
  exact d1
/-- what holes answers in the end -/
def zHf (K h : Nat) (i : Int32) (r : Nat × Nat) (g : zS) : Option (Int32 × zS) := if ¬ i = -1 then if nI r.1 = 0 then some (-1, g) else if i < nI h then f212_207 K K i (if r.1 = 0 then -1 else nI r.2) (nI h - 1) g else some (-1, g) else some (nI r.1, g)
theorem f212_103_lp {K n m W h : Nat} {c x2 : Int32} {g0 : zS} (hK : 20 ≤ K) (I : zInv n g0) (hm : m ≤ 8) (l2 : g0 222 18 = nI m) (Wd : zWds g0 m (g0 182)) (l3 : ∀ i, i < m → g0 182 i = g0 232 i) (hw : g0 4 0 = nI W) (hw2 : g0 222 9 = nI W) (hW : W ≤ 10) (hh : h = zhc (g0 182) m) (h3 : h ≤ 3) : ∀ d v q cnt f (g : zS), v + d = W ^ h → d < q → cnt ≤ v → zScr g0 g → ∃ g', f212_103 K q c x2 (nI h) (nI (W ^ h)) (nI cnt) (if cnt = 0 then -1 else nI f) (nI v) g = zHf K h x2 (zlu (zHq g0 m W h c) d v cnt f) g' ∧ zScr g0 g' := by
  have hW3 := zW3 hW h3
  intro d
  induction d with
  | zero =>
    intro v q cnt f g h1 h2 h5 s
    obtain ⟨q, rfl⟩ : ∃ z, q = z + 1 := ⟨q - 1, by omega⟩
    refine ⟨g, ?_, s⟩
    rw [f212_103, if_pos (nI_le (by omega) (by omega))]
    rfl
  | succ d ih =>
    intro v q cnt f g h1 h2 h5 s
    obtain ⟨q, rfl⟩ : ∃ z, q = z + 1 := ⟨q - 1, by omega⟩
    have hW0 : 0 < W ∨ h = 0 := by
      by_cases z : h = 0
      · exact Or.inr z
      · refine Or.inl (Nat.pos_of_ne_zero fun y => ?_)
        rw [y, Nat.zero_pow (by omega)] at h1
        omega
    obtain ⟨g1, e1, e2, e3⟩ := f213_sp (v := v) hK hm l2 l3 hh hw2 hW hW0 (by omega) s
    have Wv := zfi_wd (v := v) Wd hw hW hW0 hh
    obtain ⟨g2, e4, e5, e6⟩ := f185_sp hK I e2 Wv e3
    have T2 : zTr m (zfi (g0 182) (zdgt W h v)) g2 := ⟨hm, by rw [e6 222 (by decide)]; exact e3.2.1, fun j hj => by rw [e6 235 (by decide)]; exact e3.2.2 j hj⟩
    rw [f212_103, if_neg (nI_ge (by omega) (by omega)), e1, zbd_s, e4, zbd_s, zlu_s]
    have no : ∀ g2, zScr g0 g2 → ∃ g', f212_135 K (f212_103 K q) c x2 (nI h) (nI (W ^ h)) (nI cnt) (if cnt = 0 then -1 else nI f) (nI v) g2 = zHf K h x2 (zlu (zHq g0 m W h c) d (v + 1) cnt f) g' ∧ zScr g0 g' := by
      intro g2 s2
      unfold f212_135 f212_136
      rw [if_pos rfl]
      unfold f212_153 f212_155
      rw [if_pos rfl]
      unfold f212_169
      rw [Int32.add_zero, nI_1]
      exact ih (v + 1) q cnt f g2 (by omega) (by omega) (by omega) s2
    by_cases y1 : zGd (zQ g0 (g0 34 0) m (zfi (g0 182) (zdgt W h v))) m
    · obtain ⟨g3, d1, d2, -⟩ := f205_sp hK I e5 Wv T2
      rw [decide_eq_true y1, if_neg (show ¬ nI true.toNat = 0 by decide), d1, zbd_s]
      by_cases y2 : nI (zPr g0 0 (g0 34 0) m (zfi (g0 182) (zdgt W h v))) = c
      · have hq : zHq g0 m W h c v = true := by unfold zHq; rw [decide_eq_true y1, decide_eq_true y2]; rfl
        rw [if_neg (fun w => w y2), if_pos hq]
        have := ih (v + 1) q (cnt + 1) (if cnt = 0 then v else f) g3 (by omega) (by omega) (by omega) d2
        rw [if_neg (show ¬ cnt + 1 = 0 by omega)] at this
        unfold f212_136
        rw [if_neg (show ¬ (1 : Int32) = 0 by decide)]
        unfold f212_153 f212_155
        by_cases z : cnt = 0
        · rw [if_neg (show ¬ ¬ nI cnt = 0 from fun w => w (by rw [z]; rfl)), if_neg (show ¬ (1 : Int32) = 0 by decide)]
          unfold f212_169
          rw [nI_1, nI_1]
          rw [if_pos z] at this
          rw [if_pos z]
          exact this
        · rw [if_pos (nI_ne0 (by omega) (by omega)), if_neg (show ¬ (1 : Int32) = 0 by decide)]
          unfold f212_169
          rw [nI_1, nI_1]
          rw [if_neg z] at this
          rw [if_neg z, if_neg z]
          exact this
      · have hq : zHq g0 m W h c v = false := by unfold zHq; rw [decide_eq_false y2, Bool.and_false]
        rw [if_pos y2, if_neg (show ¬ zHq g0 m W h c v = true by rw [hq]; decide)]
        exact no g3 d2
    · have hq : zHq g0 m W h c v = false := by unfold zHq; rw [decide_eq_false y1, Bool.false_and]
      rw [decide_eq_false y1, if_pos (show nI false.toNat = 0 by decide), if_neg (show ¬ zHq g0 m W h c v = true by rw [hq]; decide)]
      exact no g2 e5
theorem f212_207_lp {K W j : Nat} {g : zS} (hw : g 222 9 = nI W) (hW : W ≤ 10) (hWp : 0 < W) : ∀ d q x, d < q → d + j < 10 → x < 2000 → f212_207 K q (nI j) (nI x) (nI (d + j)) g = some (nI (x / W ^ d % W), g) := by
  have w0 : ¬ nI W = 0 := nI_ne0 hWp (by omega)
  intro d
  induction d with
  | zero =>
    intro q x h1 h2 h3
    obtain ⟨q, rfl⟩ : ∃ z, q = z + 1 := ⟨q - 1, by omega⟩
    rw [f212_207, if_pos (nI_le (by omega) (by omega)), hw, if_pos w0, pk_rem (by omega) hWp (by omega), Nat.pow_zero, Nat.div_one]
  | succ d ih =>
    intro q x h1 h2 h3
    obtain ⟨q, rfl⟩ : ∃ z, q = z + 1 := ⟨q - 1, by omega⟩
    have hx := Nat.div_le_self x W
    rw [f212_207, if_neg (nI_ge (by omega) (by omega)), hw, if_pos w0, pk_div (by omega) hWp (by omega), show d + 1 + j = (d + j) + 1 by omega, pk_m1, ih q (x / W) (by omega) (by omega) (by omega), Nat.div_div_eq_div_mul, Nat.mul_comm, ← Nat.pow_succ]
theorem f212_73_lp {K W h : Nat} {c x2 : Int32} {g0 g : zS} (s : zScr g0 g) (hw2 : g0 222 9 = nI W) (hW : W ≤ 10) (h3 : h ≤ 3) : ∀ d i q, i + d = h → d < q → f212_73 K q c x2 (nI h) (nI (W ^ i)) (nI i) g = f212_103 K K c x2 (nI h) (nI (W ^ h)) 0 (-1) 0 g := by
  intro d
  induction d with
  | zero =>
    intro i q h1 h2
    obtain ⟨q, rfl⟩ : ∃ z, q = z + 1 := ⟨q - 1, by omega⟩
    rw [f212_73, if_pos (nI_le (by omega) (by omega)), show i = h by omega]
  | succ d ih =>
    intro i q h1 h2
    obtain ⟨q, rfl⟩ : ∃ z, q = z + 1 := ⟨q - 1, by omega⟩
    rw [f212_73, if_neg (nI_ge (by omega) (by omega)), zScr_222 s (by omega), hw2, nI_mu, ← Nat.pow_succ, nI_1]
    exact ih (i + 1) q (by omega) (by omega)
theorem f212_25_lp {K m : Nat} {c x2 : Int32} {g0 g : zS} (s : zScr g0 g) (hm : m ≤ 8) (l2 : g0 222 18 = nI m) (l3 : ∀ i, i < m → g0 182 i = g0 232 i) : ∀ d i q, i + d = m → d < q → f212_25 K q c x2 (nI (zhc (g0 182) i)) (nI i) g = if nI (zhc (g0 182) m) ≤ 3 then f212_73 K K c x2 (nI (zhc (g0 182) m)) 1 0 g else some (-4, g) := by
  intro d
  induction d with
  | zero =>
    intro i q h1 h2
    obtain ⟨q, rfl⟩ : ∃ z, q = z + 1 := ⟨q - 1, by omega⟩
    rw [f212_25, zScr_222 s (by omega), l2, if_pos (nI_le (by omega) (by omega)), show i = m by omega]
  | succ d ih =>
    intro i q h1 h2
    obtain ⟨q, rfl⟩ : ∃ z, q = z + 1 := ⟨q - 1, by omega⟩
    have := ih (i + 1) q (by omega) (by omega)
    rw [zhc_s] at this
    rw [f212_25, zScr_222 s (by omega), l2, if_neg (nI_ge (by omega) (by omega)), if_pos (zin_i (show i < 8 by omega) (by decide)), nI_clamp (show i < 2 ^ 31 by omega), zScr_c s (c := 232) (by omega), ← l3 i (by omega)]
    unfold f212_51
    by_cases hu : g0 182 i = -1
    · rw [if_neg (fun z => z hu), nI_1, nI_1]
      rw [if_pos hu] at this
      exact this
    · rw [if_pos hu, Int32.add_zero, nI_1]
      rw [if_neg hu, Nat.add_zero] at this
      exact this
theorem zp_holes {K : Nat} (hK : 1100 ≤ K) (n : Nat) (c i : Int32) : zPair (zInv n) (zInv (n + 1)) (f113 K c i) (f212 K c i) := by
  refine zPair_scr fun g I => ?_
  obtain ⟨m, m8, l1, l2, Wd, l3⟩ := zli I
  obtain ⟨W, hw, hw2, hW⟩ : ∃ W, g 4 0 = nI W ∧ g 222 9 = nI W ∧ W ≤ 10 := by
    obtain ⟨w, p, c, r, l, b0, ⟨b1, -⟩, ⟨c1, -⟩, -⟩ := I.2.1
    exact ⟨w, b1, c1, by omega⟩
  by_cases hx : zwi c 0 99 = 0
  · refine ⟨-3, zR_eq (g := g) ?_ ⟨rfl, zScr_0⟩, fun g1 s1 => zR_eq (g := g1) ?_ ⟨rfl, s1⟩⟩
    · unfold f113
      rw [f12_eq, zbd_s, if_pos hx]
    · unfold f212
      rw [i64_0, i64_99, f146_eq, zbd_s, if_pos hx]
  by_cases hi : -1 ≤ i
  · obtain ⟨h, hh⟩ : ∃ h, h = zhc (g 182) m := ⟨_, rfl⟩
    have h8 : h ≤ 8 := by rw [hh]; exact Nat.le_trans zhc_le m8
    have R0 : ∀ g1, zScr g g1 → f212 K c i g1 = if nI h ≤ 3 then f212_73 K K c i (nI h) 1 0 g1 else some (-4, g1) := by
      intro g1 s1
      have := f212_25_lp (K := K) (c := c) (x2 := i) s1 m8 l2 l3 m 0 K (by omega) (by omega)
      rw [← hh] at this
      unfold f212
      rw [i64_0, i64_99, f146_eq, zbd_s, if_neg hx, if_pos hi]
      exact this
    by_cases h3 : h ≤ 3
    · have hW3 := zW3 hW h3
      have h3i : nI h ≤ 3 := nI_le (b := 3) h3 (by omega)
      obtain ⟨r, hr⟩ : ∃ r, r = zlu (zHq g m W h c) (W ^ h) 0 0 0 := ⟨_, rfl⟩
      obtain ⟨g1, a1, a2, a3, a4⟩ := f59_sp (K := K) (x := g 34 0) (by omega) I.2.1 (zScr_0 (g := g))
      -- the class's trials
      have C : ∃ g2, f114 K 180 (nI W) c g1 = some ((), g2) ∧ zScr g g2 ∧ g2 213 6 = nI r.1 ∧ (¬ r.1 = 0 → (0 < W ∨ h = 0) ∧ r.2 < W ^ h ∧ zLn 217 m (zfi (g 182) (zdgt W h r.2)) g2) := by
        have L0 : zLn 180 m (g 182) (zup g1 213 6 0) := zLn_180 (zScr_up a2 (by unfold zKeep; omega)) m8 l1
        by_cases hW0 : 0 < W ∨ h = 0
        · obtain ⟨g2, d1, d2, d3, d4, d5⟩ := f102_sp (K := K) (o0 := 214) (o1 := 180) (m := m) (g := zup g1 213 6 0) (by omega) zl216 (by decide +kernel) (by decide) (by decide) L0.2.2.1
          have s2 : zScr g g2 := fun c k hk => by
            by_cases q1 : c = 216
            · unfold zKeep at hk; omega
            by_cases q2 : c = 214
            · unfold zKeep at hk; omega
            rw [d2 c q1 q2]
            exact (zScr_up (k := 6) (c := 213) (v := 0) a2 (by unfold zKeep; omega)) c k hk
          have L2 : zLn 214 m (zfi (g 182) (fun _ => -1)) g2 := ⟨zl216, m8, d4, fun i hi => by rw [zfi_m1, d5 i (by omega)]; exact L0.2.2.2 i hi⟩
          obtain ⟨g3, e1, e2, e3, e4⟩ := f114_32_lp (K := K) (x3 := nI W) (x4 := c) (by omega) m8 hh (fun g' sg => zLn_180 sg m8 l1) h 0 K (fun _ => -1) g2 (by omega) (by omega) s2 L2 (fun k hk => absurd hk (Nat.not_lt_zero _))
          have hpos : 0 < W ^ h := by
            rcases hW0 with z | z
            · exact Nat.pow_pos z
            · rw [z]; exact Nat.zero_lt_one
          obtain ⟨d, hd⟩ : ∃ d, W ^ h = d + 1 := ⟨W ^ h - 1, by omega⟩
          have c213 : ∀ k, g3 213 k = if k = 6 then 0 else g1 213 k := fun k => by rw [e3 213 (by decide), d2 213 (by decide) (by decide), zup_e]
          have kn3 : zKin g (g 34 0) g3 := ⟨by rw [e3 183 (by decide), d2 183 (by decide) (by decide), zup_c (by decide)]; exact a4.1, fun a q1 q2 => by rw [e3 185 (by decide), d2 185 (by decide) (by decide), zup_c (by decide)]; exact a4.2 a q1 q2⟩
          have L3 : zLn 214 m (zfi (g 182) (zdgt W h 0)) g3 := ⟨e4.1, e4.2.1, e4.2.2.1, fun i hi => by
            rw [e4.2.2.2 i hi]
            refine zfi_c (m := m) (fun k hk => ?_) i hi
            unfold zdgt
            rw [Nat.zero_div, Nat.zero_mod]
            rfl⟩
          obtain ⟨g4, f1, f2, f3, f4⟩ := f114_65_lp (K := K) (c := c) (by omega) I m8 l1 Wd hw hW hW0 hh h3 d 0 (by omega) K 0 0 g3 (by omega) (by omega) e2 kn3 L3 (by rw [c213]; rfl) (fun z => absurd rfl z)
          have f3 : g4 213 6 = nI (zlu (zHq g m W h c) (d + 1) 0 0 0).1 := f3
          have f4 : ¬ (zlu (zHq g m W h c) (d + 1) 0 0 0).1 = 0 → zLn 217 m (zfi (g 182) (zdgt W h (zlu (zHq g m W h c) (d + 1) 0 0 0).2)) g4 := f4
          rw [← hd, ← hr] at f3 f4
          refine ⟨g4, ?_, f2, f3, fun z => ⟨hW0, ?_, f4 z⟩⟩
          · have h21 : f114_21 K 180 (nI W) c (nI h) (zup g1 213 6 0) = some ((), g4) := by
              unfold f114_21
              rw [d1, zbd_s, show f114_32 K K 180 (nI W) c (nI h) 0 g2 = f114_65 K K 180 (nI W) c (nI h) 1 0 g3 from e1]
              exact f1
            unfold f114
            rw [f77_eq (by omega) L0, zbd_s, ← hh]
            by_cases z : h = 0
            · rw [if_pos (by rw [z]; decide), h21]
            · rw [if_neg (nI_nle (by omega) (by omega)), if_pos (nI_ne0 (by omega) (by omega)), h21]
          · have := @zlu_gt (zHq g m W h c) (W ^ h) 0 0 0 (fun z => absurd rfl z)
            rw [← hr, Nat.zero_add] at this
            exact this z
        · have hz : W ^ h = 0 := by rw [show W = 0 by omega, Nat.zero_pow (by omega)]
          rw [hz] at hr
          refine ⟨zup g1 213 6 0, ?_, zScr_up a2 (by unfold zKeep; omega), by rw [zup_s, hr]; rfl, fun z => absurd (by rw [hr]; rfl) z⟩
          unfold f114
          rw [f77_eq (by omega) L0, zbd_s, ← hh, if_neg (nI_nle (by omega) (by omega)), if_neg (fun z => z (by rw [show W = 0 by omega]; rfl))]
      obtain ⟨g2, c1, c2, c3, c4⟩ := C
      have C1 : f113 K c i g = (if ¬ i = -1 then if nI r.1 ≤ 0 then some (-1, g2) else if nI h ≤ i then some (-1, g2) else (zbd (f115 K 180 i g2) fun r138 g137 => zbd (f62 K 217 r138 g137) fun r141 g140 => some (r141, g140)) else some (nI r.1, g2)) := by
        unfold f113
        rw [f12_eq, zbd_s, if_neg hx, if_pos hi, f77_eq (by omega) (zLn_180 zScr_0 m8 l1), zbd_s, ← hh, if_pos h3i, a1, zbd_s, zScr_c a2 (c := 4) (by omega), hw, c1, zbd_s, c3]
      have R1 : ∀ g1, zScr g g1 → ∃ g', f212 K c i g1 = zHf K h i r g' ∧ zScr g g' := by
        intro g1 s1
        obtain ⟨g', e1, e2⟩ := f212_103_lp (K := K) (c := c) (x2 := i) (by omega) I m8 l2 Wd l3 hw hw2 hW hh h3 (W ^ h) 0 K 0 0 g1 (by omega) (by omega) (by omega) s1
        refine ⟨g', ?_, e2⟩
        rw [R0 g1 s1, if_pos h3i, hr, show f212_73 K K c i (nI h) 1 0 g1 = f212_103 K K c i (nI h) (nI (W ^ h)) 0 (-1) 0 g1 from f212_73_lp (K := K) s1 hw2 hW h3 h 0 K (by omega) (by omega)]
        exact e1
      have r1000 : r.1 ≤ 1000 := by
        have := @zlu_le (zHq g m W h c) (W ^ h) 0 0 0
        rw [← hr] at this
        omega
      by_cases i1 : i = -1
      · refine ⟨nI r.1, zR_eq (g := g2) ?_ ⟨rfl, c2⟩, fun g1 s1 => ?_⟩
        · rw [C1, if_neg (fun z => z i1)]
        · obtain ⟨g', e1, e2⟩ := R1 g1 s1
          refine zR_eq (g := g') ?_ ⟨rfl, e2⟩
          rw [e1]
          unfold zHf
          rw [if_neg (fun z => z i1)]
      by_cases r0 : r.1 = 0
      · refine ⟨-1, zR_eq (g := g2) ?_ ⟨rfl, c2⟩, fun g1 s1 => ?_⟩
        · rw [C1, if_pos i1, if_pos (by rw [r0]; decide)]
        · obtain ⟨g', e1, e2⟩ := R1 g1 s1
          refine zR_eq (g := g') ?_ ⟨rfl, e2⟩
          rw [e1]
          unfold zHf
          rw [if_pos i1, if_pos (by rw [r0]; rfl)]
      by_cases ih : i < nI h
      · have i0 : ¬ i < 0 := by
          intro z
          refine i1 (Int32.toInt_inj.mp ?_)
          rw [Int32.lt_iff_toInt_lt, show (0 : Int32).toInt = 0 from rfl] at z
          rw [Int32.le_iff_toInt_le, show (-1 : Int32).toInt = -1 from rfl] at hi
          rw [show (-1 : Int32).toInt = -1 from rfl]
          omega
        obtain ⟨j, j1, rfl⟩ := nI_of i0
        have jh : j < h := (nI_ltI j1 (by omega)).mp ih
        obtain ⟨hW0, rW, L⟩ := c4 r0
        have hWp : 0 < W := by omega
        obtain ⟨p, p1, p2, p3, p4⟩ := f115_eq (K := K) (k := j) (by omega) (zLn_180 c2 m8 l1) (by omega)
        refine ⟨nI (r.2 / W ^ (h - 1 - j) % W), zR_eq (g := g2) ?_ ⟨rfl, c2⟩, fun g1 s1 => ?_⟩
        · rw [C1, if_pos i1, if_neg (nI_nle (by omega) (by omega)), if_neg (nI_ge jh (by omega)), p4, zbd_s, f62_eq L (by omega), zbd_s, if_pos p1]
          unfold zfi
          rw [if_pos p2, p3]
          rfl
        · obtain ⟨g', e1, e2⟩ := R1 g1 s1
          refine zR_eq (g := g') ?_ ⟨rfl, e2⟩
          rw [e1]
          unfold zHf
          have := f212_207_lp (K := K) (j := j) (g := g') (by rw [zScr_222 e2 (by omega)]; exact hw2) hW hWp (h - 1 - j) K r.2 (by omega) (by omega) (by omega)
          rw [show h - 1 - j + j = h - 1 by omega] at this
          rw [if_pos i1, if_neg (nI_ne0 (by omega) (by omega)), if_pos ih, if_neg r0, show nI h - 1 = nI (h - 1) from pk_sub (a := h) (b := 1) (by omega)]
          exact this
      · refine ⟨-1, zR_eq (g := g2) ?_ ⟨rfl, c2⟩, fun g1 s1 => ?_⟩
        · rw [C1, if_pos i1, if_neg (nI_nle (by omega) (by omega)), if_pos (znle.mpr ih)]
        · obtain ⟨g', e1, e2⟩ := R1 g1 s1
          refine zR_eq (g := g') ?_ ⟨rfl, e2⟩
          rw [e1]
          unfold zHf
          rw [if_pos i1, if_neg (nI_ne0 (by omega) (by omega)), if_neg ih]
    · have h3i : ¬ nI h ≤ 3 := nI_ge (a := 3) (by omega) (by omega)
      refine ⟨-4, zR_eq (g := g) ?_ ⟨rfl, zScr_0⟩, fun g1 s1 => zR_eq (g := g1) ?_ ⟨rfl, s1⟩⟩
      · unfold f113
        rw [f12_eq, zbd_s, if_neg hx, if_pos hi, f77_eq (by omega) (zLn_180 zScr_0 m8 l1), zbd_s, ← hh, if_neg h3i]
      · rw [R0 g1 s1, if_neg h3i]
  · refine ⟨-3, zR_eq (g := g) ?_ ⟨rfl, zScr_0⟩, fun g1 s1 => zR_eq (g := g1) ?_ ⟨rfl, s1⟩⟩
    · unfold f113
      rw [f12_eq, zbd_s, if_neg hx, if_neg hi]
    · unfold f212
      rw [i64_0, i64_99, f146_eq, zbd_s, if_neg hx, if_neg hi]
