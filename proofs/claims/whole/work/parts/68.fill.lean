-- ===== holes filled by a number =====
/-- a line with d in its holes -/
def zfi (U : Nat → Int32) (d : Nat → Int32) (i : Nat) : Int32 := if U i = -1 then d (zhc U i) else U i
/-- the figures of v, h holes, W words -/
def zdgt (W h v k : Nat) : Int32 := nI (v / W ^ (h - 1 - k) % W)
theorem zhc_mono {U : Nat → Int32} {i : Nat} : ∀ {d : Nat}, zhc U i ≤ zhc U (i + d) := by
  intro d
  induction d with
  | zero => exact Nat.le_refl _
  | succ d ih =>
    rw [show i + (d + 1) = i + d + 1 by omega, zhc_s]
    exact Nat.le_trans ih (Nat.le_add_right _ _)
theorem zhc_lt {U : Nat → Int32} {i p : Nat} (h : i < p) (hu : U i = -1) : zhc U i < zhc U p := by
  have h1 := @zhc_mono U (i + 1) (p - (i + 1))
  rw [show i + 1 + (p - (i + 1)) = p by omega, zhc_s, if_pos hu] at h1
  omega
theorem zhc_inj {U : Nat → Int32} {i p : Nat} (hi : U i = -1) (hp : U p = -1) (h : zhc U i = zhc U p) : i = p := by
  rcases Nat.lt_trichotomy i p with q | q | q
  · have := zhc_lt q hi; omega
  · exact q
  · have := zhc_lt q hp; omega
theorem zfi_set {U d : Nat → Int32} {p k : Nat} {x : Int32} (hp : U p = -1) (hk : zhc U p = k) : ∀ i, zfi U (fun j => if j = k then x else d j) i = if i = p then x else zfi U d i := by
  intro i
  unfold zfi
  by_cases h : U i = -1
  · rw [if_pos h, if_pos h]
    by_cases q : i = p
    · rw [if_pos q, q]
      exact if_pos hk
    · rw [if_neg q]
      exact if_neg fun z => q (zhc_inj h hp (Eq.trans z hk.symm))
  · rw [if_neg h, if_neg h]
    by_cases q : i = p
    · exact absurd (by rw [q]; exact hp) h
    · rw [if_neg q]
theorem zfi_m1 {U : Nat → Int32} : zfi U (fun _ => -1) = U := by
  funext i
  unfold zfi
  by_cases h : U i = -1
  · rw [if_pos h, h]
  · rw [if_neg h]
theorem zfi_c {U d d2 : Nat → Int32} {m : Nat} (h : ∀ k, k < zhc U m → d k = d2 k) : ∀ i, i < m → zfi U d i = zfi U d2 i := by
  intro i hi
  unfold zfi
  by_cases q : U i = -1
  · rw [if_pos q, if_pos q, h _ (zhc_lt hi q)]
  · rw [if_neg q, if_neg q]
/-- one more: no figure is carried beyond place e -/
def zsuB (W e v : Nat) : Bool := !(decide (v % W ^ e = W ^ e - 1)) || ((!(decide (v / W ^ e % W + 1 < W)) || ((List.range 3).all (fun j => decide ((v + 1) / W ^ j % W = if j < e then 0 else if j = e then v / W ^ e % W + 1 else v / W ^ j % W)) && (List.range 4).all (fun h => !(decide (e < h)) || (!(decide (v < W ^ h)) || decide (v + 1 < W ^ h))))) && (!(decide (W ≤ v / W ^ e % W + 1)) || decide (v % W ^ (e + 1) = W ^ (e + 1) - 1)))
theorem zsuB_ok : (List.range 11).all (fun W => (List.range 3).all (fun e => (List.range (W ^ 3)).all (fun v => zsuB W e v))) = true := by decide +kernel
theorem zsuc (W : Nat) (hW : W < 11) (_ : 0 < W) (e : Nat) (he : e < 3) (v : Nat) (hv : v < W ^ 3) (h : v % W ^ e = W ^ e - 1) : (v / W ^ e % W + 1 < W → (∀ j, j < 3 → (v + 1) / W ^ j % W = if j < e then 0 else if j = e then v / W ^ e % W + 1 else v / W ^ j % W) ∧ (∀ h, h < 4 → e < h → v < W ^ h → v + 1 < W ^ h)) ∧ (W ≤ v / W ^ e % W + 1 → v % W ^ (e + 1) = W ^ (e + 1) - 1) := by
  have k := List.all_eq_true.mp (List.all_eq_true.mp (List.all_eq_true.mp zsuB_ok W (List.mem_range.mpr hW)) e (List.mem_range.mpr he)) v (List.mem_range.mpr hv)
  unfold zsuB at k
  rw [decide_eq_true h, Bool.not_true, Bool.false_or, Bool.and_eq_true, Bool.or_eq_true, Bool.or_eq_true, Bool.and_eq_true, Bool.not_eq_true', decide_eq_false_iff_not, Bool.not_eq_true', decide_eq_false_iff_not, decide_eq_true_iff] at k
  obtain ⟨k1, k2⟩ := k
  refine ⟨fun q => ?_, fun q => ?_⟩
  · rcases k1 with k1 | k1
    · exact absurd q k1
    · refine ⟨fun j hj => of_decide_eq_true (List.all_eq_true.mp k1.1 j (List.mem_range.mpr hj)), fun h hh h1 h2 => ?_⟩
      have := List.all_eq_true.mp k1.2 h (List.mem_range.mpr hh)
      rw [decide_eq_true h1, Bool.not_true, Bool.false_or, decide_eq_true h2, Bool.not_true, Bool.false_or] at this
      exact of_decide_eq_true this
  · rcases k2 with k2 | k2
    · exact absurd q k2
    · exact k2
theorem f115_lp {K o m k : Nat} {U : Nat → Int32} {g : zS} (L : zLn o m U g) (hk : k < zhc U m) : ∀ d i n, i + d = m → d < n → zhc U i ≤ k → ∃ p, p < m ∧ U p = -1 ∧ zhc U p = k ∧ f115_4 K n o (nI k) (nI (zhc U i)) (nI i) g = some (nI p, g) := by
  have hm := L.2.1
  have hh := @zhc_le U m
  intro d
  induction d with
  | zero =>
    intro i n h1 h2 h3
    rw [show i = m by omega] at h3
    omega
  | succ d ih =>
    intro i n h1 h2 h3
    obtain ⟨n, rfl⟩ : ∃ q, n = q + 1 := ⟨n - 1, by omega⟩
    rw [f115_4, L.2.2.1, if_neg (nI_ge (by omega) (by omega)), f21_eq (by rw [L.1]; omega) (by rw [L.1]; decide), zbd_s, show g (o + 1 + 1) i = U i from L.2.2.2 i (by omega)]
    unfold f115_34
    by_cases h : U i = -1
    · rw [if_neg (fun z => z h)]
      by_cases q : zhc U i = k
      · refine ⟨i, by omega, h, q, ?_⟩
        rw [q, if_neg (fun z => z rfl)]
      · rw [if_pos (fun z => q ((nI_eq (by omega) (by omega)).mp z)), nI_1, nI_1]
        have := ih (i + 1) n (by omega) (by omega) (by rw [zhc_s, if_pos h]; omega)
        rw [zhc_s, if_pos h] at this
        exact this
    · rw [if_pos h, nI_1]
      have := ih (i + 1) n (by omega) (by omega) (by rw [zhc_s, if_neg h]; exact h3)
      rw [zhc_s, if_neg h] at this
      exact this
theorem f115_eq {K o m k : Nat} {U : Nat → Int32} {g : zS} (hK : 20 ≤ K) (L : zLn o m U g) (hk : k < zhc U m) : ∃ p, p < m ∧ U p = -1 ∧ zhc U p = k ∧ f115 K o (nI k) g = some (nI p, g) := by
  have := L.2.1
  exact f115_lp L hk m 0 K (by omega) (by omega) (Nat.zero_le _)
theorem zLn_set {m p k : Nat} {U d : Nat → Int32} {x : Int32} {g : zS} (L : zLn 214 m (zfi U d) g) (hp : U p = -1) (hk : zhc U p = k) : zLn 214 m (zfi U (fun j => if j = k then x else d j)) (zup g 216 p x) := by
  refine ⟨L.1, L.2.1, by rw [zup_c (by decide)]; exact L.2.2.1, fun i hi => ?_⟩
  rw [zfi_set hp hk]
  show (zup g 216 p x) 216 i = _
  rw [zup_e]
  by_cases q : i = p
  · rw [if_pos q, if_pos q]
  · rw [if_neg q, if_neg q]
    exact L.2.2.2 i hi
theorem f116_eq {K p : Nat} {x : Int32} {g : zS} (hp : p < 8) : f116 K 214 (nI p) x g = some ((), zup g 216 p x) := by
  unfold f116
  rw [f14_eq (by exact hp) (by decide), zbd_s]
def zpr1 (r : Nat) : Int32 := if r = 0 then -1 else nI (r - 1)
theorem zpr1_m {r : Nat} : zpr1 (r + 1) + (-1) = zpr1 r := by
  unfold zpr1
  rw [if_neg (by omega), show r + 1 - 1 = r by omega]
  cases r with
  | zero => rfl
  | succ r => rw [if_neg (by omega), pk_m1, show r + 1 - 1 = r by omega]
theorem zpr1_0 (r : Nat) : nI r - 1 = zpr1 r := by
  unfold zpr1
  cases r with
  | zero => rfl
  | succ r => rw [if_neg (by omega), nI_pred, show r + 1 - 1 = r by omega]
/-- the class goes on to the next filling -/
theorem f117_lp {K m W h v : Nat} {U : Nat → Int32} {g0 : zS} (hK : 20 ≤ K) (hm : m ≤ 8) (hh : h = zhc U m) (h3 : h ≤ 3) (hW : W ≤ 10) (hW0 : 0 < W ∨ h = 0) (hv : v < W ^ h) (hL : ∀ g, zScr g0 g → zLn 180 m U g) : ∀ r q d (g : zS), r ≤ h → r < q → zScr g0 g → zLn 214 m (zfi U d) g → (∀ k, k < h → d k = if k < r then zdgt W h v k else 0) → v % W ^ (h - r) = W ^ (h - r) - 1 → ∃ g', f117_5 K q 180 (nI W) (zpr1 r) g = some (nI (decide (v + 1 < W ^ h)).toNat, g') ∧ zScr g0 g' ∧ (∀ c, c ≠ 216 → g' c = g c) ∧ (v + 1 < W ^ h → zLn 214 m (zfi U (zdgt W h (v + 1))) g') := by
  intro r
  induction r with
  | zero =>
    intro q d g h1 h2 s L hd hc
    obtain ⟨q, rfl⟩ : ∃ z, q = z + 1 := ⟨q - 1, by omega⟩
    rw [Nat.sub_zero, Nat.mod_eq_of_lt hv] at hc
    refine ⟨g, ?_, s, fun c _ => rfl, fun z => by omega⟩
    rw [f117_5, if_pos (by decide), decide_eq_false (show ¬ v + 1 < W ^ h by omega)]
    rfl
  | succ r ih =>
    intro q d g h1 h2 s L hd hc
    obtain ⟨q, rfl⟩ : ∃ z, q = z + 1 := ⟨q - 1, by omega⟩
    have hWp : 0 < W := by omega
    have e0 : zpr1 (r + 1) = nI r := by unfold zpr1; rw [if_neg (by omega), show r + 1 - 1 = r by omega]
    obtain ⟨p, p1, p2, p3, p4⟩ := f115_eq (K := K) (k := r) hK (hL g s) (by omega)
    have hp8 : p < 8 := by omega
    have hcur : zfi U d p = nI (v / W ^ (h - 1 - r) % W) := by
      unfold zfi
      rw [if_pos p2, p3, hd r (by omega), if_pos (by omega)]
      rfl
    have hv3 : v < W ^ 3 := Nat.lt_of_lt_of_le hv (Nat.pow_le_pow_right hWp h3)
    obtain ⟨n1, n2⟩ := zsuc W (by omega) hWp (h - 1 - r) (by omega) v hv3 (by rw [show h - 1 - r = h - (r + 1) by omega]; exact hc)
    have hlt : v / W ^ (h - 1 - r) % W < W := Nat.mod_lt _ hWp
    rw [f117_5, e0, if_neg (nI_pos (by omega)), p4, zbd_s, f62_eq L (by omega), zbd_s, if_pos p1, hcur, nI_1]
    by_cases y : v / W ^ (h - 1 - r) % W + 1 < W
    · obtain ⟨m1, m2⟩ := n1 y
      have hvh := m2 h (by omega) (by omega) hv
      refine ⟨zup g 216 p (nI (v / W ^ (h - 1 - r) % W + 1)), ?_, zScr_up s (by unfold zKeep; omega), fun c hc2 => zup_c hc2, fun _ => ?_⟩
      · rw [if_neg (nI_ge y (by omega)), f116_eq hp8, zbd_s, decide_eq_true hvh]
        rfl
      · have L2 := zLn_set (x := nI (v / W ^ (h - 1 - r) % W + 1)) L p2 p3
        refine ⟨L2.1, L2.2.1, L2.2.2.1, fun i hi => ?_⟩
        rw [L2.2.2.2 i hi]
        refine zfi_c (m := m) (fun k hk => ?_) i hi
        show (if k = r then nI (v / W ^ (h - 1 - r) % W + 1) else d k) = zdgt W h (v + 1) k
        unfold zdgt
        rw [m1 (h - 1 - k) (by omega)]
        by_cases q1 : k = r
        · rw [if_pos q1, q1, if_neg (by omega), if_pos rfl]
        · rw [if_neg q1, hd k (by omega)]
          by_cases q2 : k < r
          · rw [if_pos (by omega), if_neg (by omega), if_neg (by omega)]
            rfl
          · rw [if_neg (by omega), if_pos (by omega)]
            rfl
    · obtain ⟨g', e1, e2, e3, e4⟩ := ih q (fun j => if j = r then 0 else d j) (zup g 216 p 0) (by omega) (by omega) (zScr_up s (by unfold zKeep; omega)) (zLn_set L p2 p3) (fun k hk => by
        show (if k = r then (0 : Int32) else d k) = _
        by_cases q1 : k = r
        · rw [if_pos q1, if_neg (by omega)]
        · rw [if_neg q1, hd k hk]
          by_cases q2 : k < r
          · rw [if_pos (by omega), if_pos q2]
          · rw [if_neg (by omega), if_neg q2]) (by
        have := n2 (by omega)
        rw [show h - 1 - r + 1 = h - r by omega] at this
        exact this)
      refine ⟨g', ?_, e2, fun c hc2 => by rw [e3 c hc2, zup_c hc2], e4⟩
      rw [if_pos (nI_le (by omega) (by omega)), f116_eq hp8, zbd_s, ← e0, zpr1_m]
      exact e1
/-- all holes are 0 at first -/
theorem f114_32_lp {K m h : Nat} {U : Nat → Int32} {x3 x4 : Int32} {g0 : zS} (hK : 20 ≤ K) (hm : m ≤ 8) (hh : h = zhc U m) (hL : ∀ g, zScr g0 g → zLn 180 m U g) : ∀ d i q (e : Nat → Int32) (g : zS), i + d = h → d < q → zScr g0 g → zLn 214 m (zfi U e) g → (∀ k, k < i → e k = 0) → ∃ g', f114_32 K q 180 x3 x4 (nI h) (nI i) g = f114_65 K K 180 x3 x4 (nI h) 1 0 g' ∧ zScr g0 g' ∧ (∀ c, c ≠ 216 → g' c = g c) ∧ zLn 214 m (zfi U (fun _ => 0)) g' := by
  have hh8 := @zhc_le U m
  intro d
  induction d with
  | zero =>
    intro i q e g h1 h2 s L he
    obtain ⟨q, rfl⟩ : ∃ z, q = z + 1 := ⟨q - 1, by omega⟩
    refine ⟨g, ?_, s, fun c _ => rfl, L.1, L.2.1, L.2.2.1, fun j hj => ?_⟩
    · rw [f114_32, if_pos (nI_le (by omega) (by omega))]
    · rw [L.2.2.2 j hj]
      exact zfi_c (m := m) (fun k hk => he k (by omega)) j hj
  | succ d ih =>
    intro i q e g h1 h2 s L he
    obtain ⟨q, rfl⟩ : ∃ z, q = z + 1 := ⟨q - 1, by omega⟩
    obtain ⟨p, p1, p2, p3, p4⟩ := f115_eq (K := K) (k := i) hK (hL g s) (by omega)
    obtain ⟨g', e1, e2, e3, e4⟩ := ih (i + 1) q (fun j => if j = i then 0 else e j) (zup g 216 p 0) (by omega) (by omega) (zScr_up s (by unfold zKeep; omega)) (zLn_set L p2 p3) (fun k hk => by
      show (if k = i then (0 : Int32) else e k) = 0
      by_cases q1 : k = i
      · rw [if_pos q1]
      · rw [if_neg q1]; exact he k (by omega))
    refine ⟨g', ?_, e2, fun c hc2 => by rw [e3 c hc2, zup_c hc2], e4⟩
    rw [f114_32, if_neg (nI_ge (by omega) (by omega)), p4, zbd_s, f116_eq (by omega), zbd_s, nI_1]
    exact e1
