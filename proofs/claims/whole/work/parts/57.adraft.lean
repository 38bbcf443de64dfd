-- ===== draft =====
/-- all but the drafts rests on cells that stand -/
theorem zInv_dr {n : Nat} {g G : zS} (I : zInv n g) (a : ∀ c k, zKeep c k → c ≠ 186 → ¬ (195 ≤ c ∧ c < 213) → c ≠ 233 → c ≠ 234 → ¬ (c = 222 ∧ k = 21) → G c k = g c k) (h : zIdr G) : zInv n G := by
  obtain ⟨i1, i2, i3, i4, i5, i6⟩ := I
  have c : ∀ c, ((2 ≤ c ∧ c < 19) ∨ (34 ≤ c ∧ c < 183) ∨ (223 ≤ c ∧ c < 233 ∧ c ≠ 226)) → G c = g c := fun c hc => by
    funext k
    exact a c k (by unfold zKeep; omega) (by omega) (by omega) (by omega) (by omega) (by omega)
  have d : ∀ k, k < 21 ∧ k ≠ 6 → G 222 k = g 222 k := fun k hk => a 222 k (by unfold zKeep; omega) (by omega) (by omega) (by omega) (by omega) (by omega)
  exact ⟨zItx_fr i1 (a 1 1 (by unfold zKeep; omega) (by omega) (by omega) (by omega) (by omega) (by omega)) (d 4 (by omega)) (c 3 (by omega)) (c 225 (by omega)), zIto_fr i2 (fun k _ => by rw [c 4 (by omega)]) ⟨d _ (by omega), d _ (by omega), d _ (by omega), d _ (by omega), d _ (by omega)⟩ ⟨c _ (by omega), c _ (by omega), c _ (by omega), c _ (by omega), c _ (by omega), c _ (by omega), c _ (by omega)⟩ ⟨c _ (by omega), c _ (by omega), c _ (by omega), c _ (by omega), c _ (by omega)⟩, zIst_fr i3 (by rw [c 34 (by omega)]) (fun i _ => by rw [c 223 (by omega)]) ⟨c _ (by omega), c _ (by omega), c _ (by omega), c _ (by omega), c _ (by omega), c _ (by omega)⟩ (by rw [c 4 (by omega)]), zIpa_fr i4 (fun q q1 q2 => c q (by omega)) (d 1 (by omega)) (fun i _ => by rw [c 223 (by omega)]) (c 224 (by omega)) (by rw [c 4 (by omega)]), zIli_fr i5 (by rw [c 180 (by omega)]) (d 18 (by omega)) (c 182 (by omega)) (c 232 (by omega)) (by rw [c 4 (by omega)]), h⟩
theorem f214_lp {K D m : Nat} (hD : D < 6) (hm : m ≤ 8) : ∀ d i n (g : zS), i + d = m → d < n → g 222 18 = nI m → g 222 21 = nI D → ∃ G, f214_35 K n (nI i) g = some (nI (D + 1), G) ∧ (∀ c, c ≠ 233 → c ≠ 234 → c ≠ 222 → G c = g c) ∧ (∀ k, k ≠ 21 → G 222 k = g 222 k) ∧ G 222 21 = nI (D + 1) ∧ (∀ k, G 234 k = if k = D then nI m else g 234 k) ∧ ∀ k, G 233 k = if 8 * D + i ≤ k ∧ k < 8 * D + m then g 232 (k - 8 * D) else g 233 k := by
  intro d
  induction d with
  | zero =>
    intro i n g h1 h2 h3 h4
    obtain ⟨n, rfl⟩ : ∃ q, n = q + 1 := ⟨n - 1, by omega⟩
    refine ⟨zup (zup g 234 D (nI m)) 222 21 (nI (D + 1)), ?_, fun c q1 q2 q3 => by rw [zup_c q3, zup_c q2], fun k hk => by rw [zup_k hk, zup_c (by decide)], zup_s _ _ _ _, fun k => by rw [zup_c (by decide), zup_e], fun k => by rw [if_neg (by omega), zup_c (by decide), zup_c (by decide)]⟩
    rw [f214_35, h3, if_pos (nI_le (by omega) (by omega)), h4, if_pos (zin_i hD (by decide)), nI_clamp (by omega), show (zup g 234 D (nI m)) 222 21 = nI D by rw [zup_c (by decide)]; exact h4, nI_1, zup_s]
  | succ d ih =>
    intro i n g h1 h2 h3 h4
    obtain ⟨n, rfl⟩ : ∃ q, n = q + 1 := ⟨n - 1, by omega⟩
    obtain ⟨G, e1, e2, e3, e4, e5, e6⟩ := ih (i + 1) n (zup g 233 (8 * D + i) (g 232 i)) (by omega) (by omega) (by rw [zup_c (by decide)]; exact h3) (by rw [zup_c (by decide)]; exact h4)
    refine ⟨G, ?_, fun c q1 q2 q3 => by rw [e2 c q1 q2 q3, zup_c q1], fun k hk => by rw [e3 k hk, zup_c (by decide)], e4, fun k => by rw [e5 k, zup_c (by decide)], fun k => ?_⟩
    · rw [f214_35, h3, if_neg (nI_ge (by omega) (by omega)), if_pos (zin_i (show i < 8 by omega) (by decide)), h4, show (8 : Int32) = nI 8 from rfl, nI_mu, nI_add, if_pos (zin_i (show 8 * D + i < 48 by omega) (by decide)), nI_clamp (show i < 2 ^ 31 by omega), nI_clamp (show 8 * D + i < 2 ^ 31 by omega), nI_1, e1]
    · rw [e6 k, zup_c (c2 := 232) (by decide), zup_e]
      by_cases q : k = 8 * D + i
      · rw [if_neg (by omega), if_pos q, if_pos (by omega), q, show 8 * D + i - 8 * D = i by omega]
      · rw [if_neg q]
        by_cases q2 : 8 * D + (i + 1) ≤ k ∧ k < 8 * D + m
        · rw [if_pos q2, if_pos (by omega)]
        · rw [if_neg q2, if_neg (by omega)]
theorem f102_sp {K o0 o1 m : Nat} {g : zS} (hK : 20 ≤ K) (h0 : zlen (o0 + 1 + 1) = 8) (h1 : zlen (o1 + 1 + 1) = 8) (ho : o0 ≠ o1) (ho2 : o1 ≠ o0 + 2) (h : g o1 1 = nI m) : ∃ g', f102 K o0 o1 g = some ((), g') ∧ (∀ c, c ≠ o0 + 2 → c ≠ o0 → g' c = g c) ∧ (∀ k, k ≠ 1 → g' o0 k = g o0 k) ∧ g' o0 1 = nI m ∧ ∀ k, k < 8 → g' (o0 + 2) k = g (o1 + 2) k := by
  obtain ⟨g1, e1, e2, e3⟩ := f18_sp (K := K) (o0 := o0 + 1) (o1 := o1 + 1) (g := g) h0 h1 (by decide) (by omega) (by omega)
  refine ⟨zup g1 o0 1 (nI m), ?_, fun c q1 q2 => by rw [zup_c q2, e2 c q1], fun k hk => by rw [zup_k hk, e2 o0 (by omega)], zup_s _ _ _ _, fun k hk => by rw [zup_c (by omega)]; exact e3 k hk⟩
  unfold f102
  rw [e1, zbd_s, e2 o1 (by omega), h]
theorem zp_draft {K : Nat} (hK : 20 ≤ K) (n : Nat) : zPair (zInv n) (zInv (n + 1)) (f118 K) (f214 K) := by
  intro g h
  have I := zInv_mono n g h
  obtain ⟨m, m8, l1, l2, Wd, l3⟩ := zli I
  obtain ⟨z0, D, D6, q1, q2, q3⟩ := I.2.2.2.2.2
  have fr : ∀ g2, zScr g g2 → zInv (n + 1) g2 := fun g2 s => zInv_scr I s
  by_cases hs : 0 < m ∧ zhc (g 182) m = 0
  · by_cases hD : D < 6
    · obtain ⟨g1, e1, e2, e3, e4, e5⟩ := f102_sp (K := K) (o0 := 195 + 3 * D) (o1 := 180) (m := m) (g := g) hK (zl_dr D hD) (by decide +kernel) (by omega) (by omega) l1
      have hG1 : ∀ c, c ≠ 186 → c ≠ 195 + 3 * D → c ≠ 195 + 3 * D + 2 → (zup g1 186 4 (nI (D + 1))) c = g c := fun c u1 u2 u3 => by rw [zup_c u1, e2 c u3 u2]
      have hG2 : ∀ k, (zup g1 186 4 (nI (D + 1))) 186 k = if k = 4 then nI (D + 1) else g 186 k := fun k => by rw [zup_e, e2 186 (by omega) (by omega)]
      have C : f118 K g = some (nI (D + 1), zup g1 186 4 (nI (D + 1))) := by
        unfold f118
        rw [f76_eq hK (zLn_180 zScr_0 m8 l1), zbd_s, if_pos hs, if_pos (by decide)]
        unfold f119
        rw [q1, show (6 : Int32) = nI 6 from rfl, if_pos (nI_lt hD (by omega)), f120_eq hD, zbd_s, e1, zbd_s, e2 186 (by omega) (by omega), q1, nI_1, zbd_s, if_neg (by decide), zup_s]
      -- the reference
      have L : ∀ c, c ≠ 186 → ¬ (195 ≤ c ∧ c < 213) → (zup g1 186 4 (nI (D + 1))) c = g c := fun c u1 u2 => hG1 c u1 (by omega) (by omega)
      have s0 : zScr (zup g1 186 4 (nI (D + 1))) (zup g1 186 4 (nI (D + 1))) := zScr_0
      obtain ⟨h1, v1, v2, v3, v4, v5⟩ := f173_sp hK s0 m8 (by rw [L 222 (by decide) (by omega)]; exact l2) (fun i hi => by rw [L 182 (by decide) (by omega), L 232 (by decide) (by omega)]; exact l3 i hi)
      rw [L 182 (by decide) (by omega)] at v3
      obtain ⟨G, w1, w2, w3, w4, w5, w6⟩ := f214_lp (K := K) hD m8 m 0 K h1 (by omega) (by omega) (by rw [v5 18 (by decide), L 222 (by decide) (by omega)]; exact l2) (by rw [v5 21 (by decide), L 222 (by decide) (by omega)]; exact q2)
      have hz : zah (g 182) (-1) m = false := zah_f.mpr (zhc_0.mp hs.2)
      have R : f214 K (zup g1 186 4 (nI (D + 1))) = some (nI (D + 1), G) := by
        unfold f214
        rw [v1, zbd_s, v3.2.1, if_neg (nI_ne0 hs.1 (by omega)), f186_eq hK v3, zbd_s, hz, if_pos (by decide), v5 21 (by decide), L 222 (by decide) (by omega), q2, if_pos (fun q => by have := (nI_eq (b := 6) (by omega) (by omega)).mp q; omega)]
        exact w1
      -- what stands
      have F : ∀ c, c ≠ 233 → c ≠ 234 → c ≠ 222 → c ≠ 235 → G c = (zup g1 186 4 (nI (D + 1))) c := fun c u1 u2 u3 u4 => by rw [w2 c u1 u2 u3, v4 c u4 u3]
      have F222 : ∀ k, k ≠ 21 → k ≠ 29 → G 222 k = g 222 k := fun k u1 u2 => by rw [w3 k u1, v5 k u2, L 222 (by decide) (by omega)]
      have Fg : ∀ c, c ≠ 233 → c ≠ 234 → c ≠ 222 → c ≠ 235 → c ≠ 186 → ¬ (195 ≤ c ∧ c < 213) → G c = g c := fun c u1 u2 u3 u4 u5 u6 => by rw [F c u1 u2 u3 u4, L c u5 u6]
      refine ⟨nI (D + 1), _, G, C, R, zInv_dr I (fun c k u0 u1 u2 u3 u4 u5 => ?_) ⟨by rw [Fg 221 (by decide) (by decide) (by decide) (by decide) (by decide) (by omega)]; exact z0, D + 1, by omega, ?_, w4, fun e he => ?_⟩⟩
      · unfold zKeep at u0
        by_cases h2 : c = 222
        · subst h2
          exact F222 k (by omega) (by omega)
        · rw [Fg c u3 u4 h2 (by omega) u1 u2]
      · rw [F 186 (by decide) (by decide) (by decide) (by decide), hG2]; rfl
      · have k41 : G 4 0 = g 4 0 := by rw [Fg 4 (by decide) (by decide) (by decide) (by decide) (by decide) (by omega)]
        have k234 : G 234 e = if e = D then nI m else g 234 e := by
          rw [w5 e, v4 234 (by decide) (by decide), L 234 (by decide) (by omega)]
        have k233 : ∀ i, i < 8 → G 233 (8 * e + i) = if e = D ∧ i < m then g 232 i else g 233 (8 * e + i) := fun i hi => by
          rw [w6 (8 * e + i), v4 232 (by decide) (by decide), L 232 (by decide) (by omega), v4 233 (by decide) (by decide), L 233 (by decide) (by omega)]
          by_cases u : e = D ∧ i < m
          · rw [if_pos u, if_pos (by omega), show 8 * e + i - 8 * D = i by omega]
          · rw [if_neg u, if_neg (by omega)]
        by_cases heD : e = D
        · subst heD
          refine ⟨m, hs.1, m8, ?_, by rw [k234, if_pos rfl], fun i hi => ?_⟩
          · rw [F (195 + 3 * e) (by omega) (by omega) (by omega) (by omega), zup_c (by omega), e4]
          · rw [F (195 + 3 * e + 2) (by omega) (by omega) (by omega) (by omega), zup_c (by omega), e5 i (by omega), k233 i (by omega), if_pos ⟨rfl, hi⟩, k41]
            refine ⟨l3 i hi, ?_⟩
            rcases Wd i hi with u | u
            · exact absurd u (zhc_0.mp hs.2 i hi)
            · exact u
        · obtain ⟨me, x1, x2, x3, x4, x5⟩ := q3 e (by omega)
          refine ⟨me, x1, x2, ?_, by rw [k234, if_neg heD]; exact x4, fun i hi => ?_⟩
          · rw [F (195 + 3 * e) (by omega) (by omega) (by omega) (by omega), hG1 _ (by omega) (by omega) (by omega)]; exact x3
          · rw [F (195 + 3 * e + 2) (by omega) (by omega) (by omega) (by omega), hG1 _ (by omega) (by omega) (by omega), k233 i (by omega), if_neg (fun u => heD u.1), k41]
            exact x5 i hi
    · obtain ⟨h1, v1, v2, v3, v4, v5⟩ := f173_sp hK (zScr_0 (g := g)) m8 l2 l3
      refine ⟨-5, g, h1, ?_, ?_, fr h1 v2⟩
      · unfold f118
        rw [f76_eq hK (zLn_180 zScr_0 m8 l1), zbd_s, if_pos hs, if_pos (by decide)]
        unfold f119
        rw [q1, show D = 6 by omega, if_neg (by decide), zbd_s, if_pos rfl]
      · have hz : zah (g 182) (-1) m = false := zah_f.mpr (zhc_0.mp hs.2)
        unfold f214
        rw [v1, zbd_s, v3.2.1, if_neg (nI_ne0 hs.1 (by omega)), f186_eq hK v3, zbd_s, hz, if_pos (by decide), v5 21 (by decide), q2, show D = 6 by omega, if_neg (fun q => q rfl)]
  · obtain ⟨h1, v1, v2, v3, v4, v5⟩ := f173_sp hK (zScr_0 (g := g)) m8 l2 l3
    refine ⟨-4, g, h1, ?_, ?_, fr h1 v2⟩
    · unfold f118
      rw [f76_eq hK (zLn_180 zScr_0 m8 l1), zbd_s, if_neg hs, if_neg (fun q => q rfl)]
    · unfold f214
      rw [v1, zbd_s, v3.2.1]
      by_cases h0 : 0 < m
      · have hz : zah (g 182) (-1) m = true := by
          cases hz : zah (g 182) (-1) m with
          | true => rfl
          | false => exact absurd ⟨h0, zhc_0.mpr (zah_f.mp hz)⟩ hs
        rw [if_neg (nI_ne0 h0 (by omega)), f186_eq hK v3, zbd_s, hz, if_neg (by decide)]
      · rw [if_pos (by rw [show m = 0 by omega]; rfl)]
