-- ===== week =====
/-- the halves of one in the next week: his kind, the ration, what he has -/
def zhn (κ : Int32) (r h : Nat) : Nat := if (if κ = 1 then h else 0) + 2 * r < 60 then (if κ = 1 then h else 0) + 2 * r else 60
theorem zhn_le {κ : Int32} {r h : Nat} : zhn κ r h ≤ 60 := by
  unfold zhn
  by_cases q : (if κ = 1 then h else 0) + 2 * r < 60
  · rw [if_pos q]; omega
  · rw [if_neg q]; omega
theorem f86_eq {K h r : Nat} {κ : Int32} {g : zS} (hh : h ≤ 1000) (hr : r ≤ 20) : f86 K (nI h) κ (nI r) g = some (nI (zhn κ r h), g) := by
  have key : ∀ q : Nat, q ≤ 1000 → f86_10 K (nI r) (nI q) g = some (nI (if q + 2 * r < 60 then q + 2 * r else 60), g) := by
    intro q hq
    unfold f86_10
    rw [show (2 : Int32) = nI 2 from rfl, show (60 : Int32) = nI 60 from rfl, nI_mu, nI_add]
    by_cases z : q + 2 * r < 60
    · rw [if_pos ((nI_ltI (by omega) (by omega)).mpr z), if_pos z]
    · rw [if_neg (fun y => z ((nI_ltI (by omega) (by omega)).mp y)), if_neg z]
  unfold f86 zhn
  by_cases hk : κ = 1
  · rw [if_neg (fun q => q hk), key h hh, if_pos hk]
  · rw [if_pos hk, show (0 : Int32) = nI 0 from rfl, key 0 (by omega), if_neg hk]
theorem f192_eq {K a h r : Nat} {κ : Int32} {g : zS} (ha : a < 4) (hk : g 230 a = κ) (hr1 : g 222 15 = nI r) (hh : h ≤ 1000) (hr : r ≤ 20) : f192 K (nI a) (nI h) g = some (nI (zhn κ r h), g) := by
  have key : ∀ q : Nat, q ≤ 1000 → f192_15 K (nI q) g = some (nI (if q + 2 * r < 60 then q + 2 * r else 60), g) := by
    intro q hq
    unfold f192_15
    rw [hr1, show (2 : Int32) = nI 2 from rfl, show (60 : Int32) = nI 60 from rfl, nI_mu, nI_add]
    by_cases z : q + 2 * r < 60
    · rw [if_pos (nI_le (by omega) (by omega)), if_pos z]
    · by_cases z2 : q + 2 * r = 60
      · rw [if_pos (nI_le (by omega) (by omega)), if_neg z, z2]
      · rw [if_neg (nI_ge (by omega) (by omega)), if_neg z]
  unfold f192 zhn
  rw [if_pos (zin_i ha (by decide)), nI_clamp (by omega), hk]
  by_cases hk1 : κ = 1
  · rw [if_neg (fun q => q hk1), key h hh, if_pos hk1]
  · rw [if_pos hk1, show (0 : Int32) = nI 0 from rfl, key 0 (by omega), if_neg hk1]
theorem f192_any {K a : Nat} {x : Int32} {g : zS} (ha : a < 4) : ∃ v, f192 K (nI a) x g = some (v, g) := by
  unfold f192 f192_15
  rw [if_pos (zin_i ha (by decide))]
  by_cases h1 : ¬ g 230 (nI a).toNatClampNeg = 1
  · rw [if_pos h1]
    by_cases h2 : (0 : Int32) + 2 * g 222 15 ≤ 60
    · rw [if_pos h2]; exact ⟨_, rfl⟩
    · rw [if_neg h2]; exact ⟨_, rfl⟩
  · rw [if_neg h1]
    by_cases h2 : x + 2 * g 222 15 ≤ 60
    · rw [if_pos h2]; exact ⟨_, rfl⟩
    · rw [if_neg h2]; exact ⟨_, rfl⟩
theorem f54_eq {K a : Nat} {g : zS} (ha : a < 4) : f54 K 4 (nI a) g = some (g 10 a, g) := by
  unfold f54
  rw [f21_eq (by exact ha) (by decide), zbd_s]
theorem f85_lp {K p r : Nat} (hp : p ≤ 4) (hr : r ≤ 20) : ∀ d i n (g : zS), i + d = p → d < n → g 4 1 = nI p → g 4 3 = nI r → (∀ k, k < 4 → ∃ h : Nat, h ≤ 60 ∧ g 36 k = nI h) → ∃ g', f85_42 K n (nI i) g = some (g 34 0, g') ∧ (∀ c, c ≠ 36 → g' c = g c) ∧ ∀ k, g' 36 k = if i ≤ k ∧ k < p then nI (zhn (g 10 k) r (g 36 k).toNatClampNeg) else g 36 k := by
  intro d
  induction d with
  | zero =>
    intro i n g h1 h2 h3 h4 h5
    obtain ⟨n, rfl⟩ : ∃ q, n = q + 1 := ⟨n - 1, by omega⟩
    refine ⟨g, ?_, fun c _ => rfl, fun k => by rw [if_neg (by omega)]⟩
    rw [f85_42, h3, if_pos (nI_le (by omega) (by omega))]
  | succ d ih =>
    intro i n g h1 h2 h3 h4 h5
    obtain ⟨n, rfl⟩ : ∃ q, n = q + 1 := ⟨n - 1, by omega⟩
    obtain ⟨h, h6, h7⟩ := h5 i (by omega)
    have h8 : (g 36 i).toNatClampNeg = h := by rw [h7, nI_clamp (by omega)]
    have hK : ∀ k, (zup g 36 i (nI (zhn (g 10 i) r h))) 36 k = if k = i then nI (zhn (g 10 i) r h) else g 36 k := fun k => zup_e
    obtain ⟨g', e1, e2, e3⟩ := ih (i + 1) n (zup g 36 i (nI (zhn (g 10 i) r h))) (by omega) (by omega) (by rw [zup_c (by decide)]; exact h3) (by rw [zup_c (by decide)]; exact h4) (fun k hk => by
      rw [hK]
      by_cases hki : k = i
      · rw [if_pos hki]; exact ⟨_, zhn_le, rfl⟩
      · rw [if_neg hki]; exact h5 k hk)
    refine ⟨g', ?_, fun c hc => by rw [e2 c hc, zup_c hc], fun k => ?_⟩
    · rw [f85_42, h3, if_neg (nI_ge (by omega) (by omega)), f21_eq (by exact (show i < 4 by omega)) (by decide), zbd_s, f54_eq (by omega), zbd_s, show g (35 + 1) i = nI h from h7, h4, f86_eq (by omega) hr, zbd_s, f14_eq (by exact (show i < 4 by omega)) (by decide), zbd_s, nI_1, e1]
      rfl
    · rw [e3 k, hK, zup_c (by decide)]
      by_cases hki : k = i
      · rw [if_neg (by omega), if_pos hki, if_pos (by omega), hki, h8]
      · rw [if_neg hki]
        by_cases hk2 : i + 1 ≤ k ∧ k < p
        · rw [if_pos hk2, if_pos (by omega)]
        · rw [if_neg hk2, if_neg (by omega)]
theorem f191_lp {K p r : Nat} (hp : p ≤ 4) (hr : r ≤ 20) (κ : Nat → Int32) (H : Nat → Nat) : ∀ d i n (g : zS), i + d = p → d < n → g 222 14 = nI p → g 222 15 = nI r → (∀ k, k < p → g 230 k = κ k) → (∀ k, i ≤ k → k < p → H k ≤ 60 ∧ g 223 (1 + k) = nI (H k)) → ∃ g', f191_21 K n (nI i) g = some (g 223 0 + 1, g') ∧ (∀ c, c ≠ 223 → g' c = g c) ∧ ∀ k, g' 223 k = if k = 0 then g 223 0 + 1 else if i + 1 ≤ k ∧ k < p + 1 then nI (zhn (κ (k - 1)) r (H (k - 1))) else g 223 k := by
  intro d
  induction d with
  | zero =>
    intro i n g h1 h2 h3 h4 h5 h6
    obtain ⟨n, rfl⟩ : ∃ q, n = q + 1 := ⟨n - 1, by omega⟩
    refine ⟨zup g 223 0 (g 223 0 + 1), ?_, fun c hc => zup_c hc, fun k => ?_⟩
    · rw [f191_21, h3, if_pos (nI_le (by omega) (by omega)), if_pos (by decide), if_pos (by decide), if_pos (by decide)]
      show some ((zup g 223 0 (g 223 0 + 1)) 223 0, _) = _
      rw [zup_s]
      rfl
    · rw [zup_e, if_neg (show ¬ (i + 1 ≤ k ∧ k < p + 1) by omega)]
  | succ d ih =>
    intro i n g h1 h2 h3 h4 h5 h6
    obtain ⟨n, rfl⟩ : ∃ q, n = q + 1 := ⟨n - 1, by omega⟩
    obtain ⟨h7, h8⟩ := h6 i (by omega) (by omega)
    obtain ⟨g', e1, e2, e3⟩ := ih (i + 1) n (zup g 223 (1 + i) (nI (zhn (κ i) r (H i)))) (by omega) (by omega) (by rw [zup_c (by decide)]; exact h3) (by rw [zup_c (by decide)]; exact h4) (fun k hk => by rw [zup_c (by decide)]; exact h5 k hk) (fun k k1 k2 => by rw [zup_k (by omega)]; exact h6 k (by omega) k2)
    refine ⟨g', ?_, fun c hc => by rw [e2 c hc, zup_c hc], fun k => ?_⟩
    · rw [f191_21, h3, if_neg (nI_ge (by omega) (by omega)), nI_lit1, nI_add, nI_add, if_pos (zin_i (show 1 + i < 803 by omega) (by decide)), nI_clamp (show 1 + i < 2 ^ 31 by omega), h8, f192_eq (by omega) (h5 i (by omega)) h4 (by omega) hr, zbd_s, if_pos (zin_i (show 1 + i < 803 by omega) (by decide)), e1, zup_k (by omega)]
      rfl
    · rw [e3 k, zup_k (k2 := 0) (by omega), zup_e]
      by_cases hk0 : k = 0
      · rw [if_pos hk0, if_pos hk0]
      · rw [if_neg hk0, if_neg hk0]
        by_cases hki : k = 1 + i
        · rw [if_neg (show ¬ (i + 1 + 1 ≤ k ∧ k < p + 1) by omega), if_pos hki, if_pos (by omega), hki, show 1 + i - 1 = i by omega]
        · rw [if_neg hki]
          by_cases hk2 : i + 1 + 1 ≤ k ∧ k < p + 1
          · rw [if_pos hk2, if_pos (by omega)]
          · rw [if_neg hk2, if_neg (by omega)]
theorem zp_week {K : Nat} (hK : 600 ≤ K) (n : Nat) : zPair (zInv n) (zInv (n + 1)) (f85 K) (f191 K) := by
  intro g h
  have I := zInv_mono n g h
  obtain ⟨w, p, c, r, l, b0, ⟨-, b1, -, b3, -⟩, ⟨-, b2, -, b4, -⟩, -, d2, -⟩ := I.2.1
  have S := I.2.2.1
  have P := I.2.2.2.1
  obtain ⟨⟨wk, wk1, wk2⟩, s2, s3, s4, s5, s6⟩ := I.2.2.1
  have s2 : g 34 0 = g 223 0 := s2
  by_cases h9 : wk < 999
  · obtain ⟨g1, r1, r2, r3⟩ := f78_sp (K := K) (by omega) P
    obtain ⟨G, e1, e2, e3⟩ := f85_lp (K := K) (p := p) (r := r) (by omega) (by omega) p 0 K (zup g1 34 0 (g1 34 0 + 1)) (by omega) (by omega) (by rw [zup_c (by decide), r2 4 (by omega)]; exact b1) (by rw [zup_c (by decide), r2 4 (by omega)]; exact b3) (fun k hk => by
      rw [zup_c (by decide), r2 36 (by omega)]
      exact (s3 k hk).2.2.2.2)
    have hGc : ∀ c, c ≠ 36 → c ≠ 34 → G c = g1 c := fun c q1 q2 => by rw [e2 c q1, zup_c q2]
    have hG36 : ∀ k, G 36 k = if k < p then nI (zhn (g 10 k) r (g 36 k).toNatClampNeg) else g 36 k := fun k => by
      rw [e3 k, zup_c (by decide), zup_c (by decide), r2 36 (by omega), r2 10 (by omega)]
      by_cases hk : k < p
      · rw [if_pos (by omega), if_pos hk]
      · rw [if_neg (by omega), if_neg hk]
    have hG34 : ∀ k, G 34 k = if k = 0 then nI (wk + 1) else g 34 k := fun k => by
      rw [e2 34 (by decide), zup_e, r2 34 (by omega), wk2, nI_1]
    obtain ⟨h1, v1, v2, v3, v4, v5⟩ := f188_sp (K := K) (h := G) (by omega) P S r3 (fun c q1 q2 => hGc c (by omega) (by omega)) (by rw [hGc 223 (by decide) (by decide), r2 223 (by omega)]) (by rw [hGc 222 (by decide) (by decide), r2 222 (by omega)]) (by rw [hGc 224 (by decide) (by decide), r2 224 (by omega)]) (by rw [hGc 4 (by decide) (by decide), r2 4 (by omega)])
    have k223 : ∀ k, k < 73 → h1 223 k = g 223 k := fun k hk => by rw [v4 k (by omega), hGc 223 (by decide) (by decide), r2 223 (by omega)]
    obtain ⟨R, f1, f2, f3⟩ := f191_lp (K := K) (p := p) (r := r) (by omega) (by omega) (fun k => g 10 k) (fun k => (g 36 k).toNatClampNeg) p 0 K h1 (by omega) (by omega) (by rw [v3 14 (by decide), hGc 222 (by decide) (by decide), r2 222 (by omega)]; exact b2) (by rw [v3 15 (by decide), hGc 222 (by decide) (by decide), r2 222 (by omega)]; exact b4) (fun k hk => by rw [v2 230 (by decide) (by decide), hGc 230 (by decide) (by decide), r2 230 (by omega)]; exact (d2 k hk).1.symm) (fun k q1 q2 => by
      obtain ⟨x1, -, -, -, hh, z5, z6⟩ := s3 k (by omega)
      have z6 : g 36 k = nI hh := z6
      have x1 : g 36 k = g 223 (0 + 1 + k) := x1
      rw [k223 _ (by omega), show 1 + k = 0 + 1 + k by omega, ← x1, z6, nI_clamp (by omega)]
      exact ⟨z5, rfl⟩)
    have hR2 : ∀ k, k < 73 → R 223 k = if k = 0 then nI (wk + 1) else if k < p + 1 then nI (zhn (g 10 (k - 1)) r (g 36 (k - 1)).toNatClampNeg) else g 223 k := fun k hk => by
      rw [f3 k, k223 0 (by omega), ← s2, wk2, nI_1, k223 k hk]
      by_cases q : k = 0
      · rw [if_pos q, if_pos q]
      · rw [if_neg q, if_neg q]
        by_cases q2 : k < p + 1
        · rw [if_pos (by omega), if_pos q2]
        · rw [if_neg (by omega), if_neg q2]
    have hRc : ∀ c, c ≠ 36 → c ≠ 34 → 33 < c → c < 47 → R c = g c := fun c q1 q2 q3 q4 => by rw [f2 c (by omega), v2 c (by omega) (by omega), hGc c q1 q2, r2 c (by omega)]
    refine ⟨nI (wk + 1), G, R, ?_, ?_, zstep_fr I r2 (fun c hc => hGc c (by omega) (by omega)) v2 v3 v5 f2 (fun k hk => ?_) ?_⟩
    · unfold f85
      rw [wk2, show (999 : Int32) = nI 999 from rfl, if_pos ((nI_ltI (by omega) (by omega)).mpr h9), r1, zbd_s, show (0 : Int32) = nI 0 from rfl]
      rw [show (nI 0 : Int32) = 0 from rfl] at *
      rw [show f85_42 K K 0 (zup g1 34 0 (g1 34 0 + 1)) = some ((zup g1 34 0 (g1 34 0 + 1)) 34 0, G) from e1, zup_s, r2 34 (by omega), wk2, nI_1]
    · unfold f191
      rw [if_pos (by decide), show (0 : Int32).toNatClampNeg = 0 from rfl, hGc 223 (by decide) (by decide), r2 223 (by omega), ← s2, wk2, show (999 : Int32) = nI 999 from rfl, if_pos (fun q => by have := (nI_eq (by omega) (by omega)).mp q; omega), v1, zbd_s]
      rw [show f191_21 K K 0 h1 = some (h1 223 0 + 1, R) from f1, k223 0 (by omega), ← s2, wk2, nI_1]
    · rw [f3 k, if_neg (by omega), if_neg (by omega)]
    · refine ⟨⟨wk + 1, by omega, ?_⟩, ?_, fun i hi => ?_, fun i hi => ?_, fun i hi => ?_, fun i hi hp => ?_⟩
      · rw [f2 34 (by decide), v2 34 (by decide) (by decide), hG34]; rfl
      · rw [f2 34 (by decide), v2 34 (by decide) (by decide), hG34, hR2 0 (by omega)]; rfl
      · obtain ⟨z1, z2, z3, z4, hh, z5, z6⟩ := s3 i hi
        rw [hRc (34 + 4) (by decide) (by decide) (by decide) (by decide), hRc (34 + 6) (by decide) (by decide) (by decide) (by decide), hRc (34 + 8) (by decide) (by decide) (by decide) (by decide)]
        rw [f2 (34 + 2) (by decide), v2 (34 + 2) (by decide) (by decide)]
        show G 36 i = _ ∧ _ ∧ _ ∧ _ ∧ ∃ h : Nat, h ≤ 60 ∧ G 36 i = nI h
        rw [hG36, hR2 (0 + 1 + i) (by omega), hR2 (0 + 5 + i) (by omega), hR2 (0 + 9 + i) (by omega), hR2 (0 + 13 + i) (by omega)]
        rw [if_neg (show ¬ 0 + 1 + i = 0 by omega), if_neg (show ¬ 0 + 5 + i = 0 by omega), if_neg (show ¬ 0 + 9 + i = 0 by omega), if_neg (show ¬ 0 + 13 + i = 0 by omega), if_neg (show ¬ 0 + 5 + i < p + 1 by omega), if_neg (show ¬ 0 + 9 + i < p + 1 by omega), if_neg (show ¬ 0 + 13 + i < p + 1 by omega), show 0 + 1 + i - 1 = i by omega]
        refine ⟨?_, z2, z3, z4, ?_⟩
        · by_cases q : i < p
          · rw [if_pos q, if_pos (by omega)]
          · rw [if_neg q, if_neg (by omega)]; exact z1
        · by_cases q : i < p
          · rw [if_pos q]; exact ⟨_, zhn_le, rfl⟩
          · rw [if_neg q]; exact ⟨hh, z5, z6⟩
      · rw [hRc (34 + 10) (by decide) (by decide) (by decide) (by decide), hR2 _ (by omega), if_neg (by omega), if_neg (by omega)]
        exact s4 i hi
      · rw [hRc (34 + 12) (by decide) (by decide) (by decide) (by decide), hR2 _ (by omega), if_neg (by omega), if_neg (by omega)]
        exact s5 i hi
      · have hp2 : ¬ nI i < g 4 1 := by
          rw [f2 4 (by decide), v2 4 (by decide) (by decide), hGc 4 (by decide) (by decide), r2 4 (by omega)] at hp
          exact hp
        have hip : ¬ i < p := fun q => hp2 (by rw [b1]; exact (nI_ltI (by omega) (by omega)).mpr q)
        obtain ⟨z1, z2, z3, z4⟩ := s6 i hi hp2
        rw [hRc (34 + 4) (by decide) (by decide) (by decide) (by decide), hRc (34 + 10) (by decide) (by decide) (by decide) (by decide), hRc (34 + 12) (by decide) (by decide) (by decide) (by decide), f2 (34 + 2) (by decide), v2 (34 + 2) (by decide) (by decide)]
        refine ⟨?_, z2, z3, z4⟩
        show G 36 i = 0
        rw [hG36, if_neg hip]
        exact z1
  · have h99 : wk = 999 := by omega
    refine ⟨-5, g, g, ?_, ?_, I⟩
    · unfold f85
      rw [wk2, h99, if_neg (by decide)]
    · unfold f191
      rw [if_pos (by decide), show (0 : Int32).toNatClampNeg = 0 from rfl, ← s2, wk2, h99, if_neg (fun q => q rfl)]
