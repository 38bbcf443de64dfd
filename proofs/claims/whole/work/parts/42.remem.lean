-- ===== what is remembered: the class's ring, the reference's row =====
/-- g1 is g, with its state of now remembered by the class -/
def zNext (n : Nat) (g g1 : zS) : Prop := ∃ nw sz : Nat, nw < 8 ∧ sz ≤ 8 ∧ g 222 1 = nI sz ∧ (∀ t, t < sz → zIst n (50 + 13 * ((nw + 8 - t) % 8)) (219 + 73 * (sz - 1 - t)) g) ∧ g1 47 2 = nI ((nw + 1) % 8) ∧ g1 47 3 = nI (if sz < 8 then sz + 1 else 8) ∧ g1 47 4 = g 47 4 ∧ (∀ c, 47 < c → c < 180 → (c < 50 + 13 * ((nw + 1) % 8) ∨ 50 + 13 * ((nw + 1) % 8) + 12 < c) → g1 c = g c) ∧ zSame (50 + 13 * ((nw + 1) % 8)) 34 g1 g
theorem f78_sp {K n : Nat} {g : zS} (hK : 100 ≤ K) (P : zIpa n g) : ∃ g1, f78 K 34 g = some ((), g1) ∧ (∀ c, c < 47 ∨ 179 < c → g1 c = g c) ∧ zNext n g g1 := by
  obtain ⟨⟨nw, sz, a1, a2, a3, a4, a5, a6⟩, -⟩ := P
  have hnv : (nw + 1) % 8 < 8 := by omega
  obtain ⟨g1, e1, e2, e3⟩ := f80_sp (K := K) (s := 50 + 13 * ((nw + 1) % 8)) (t := 34) (g := zup g 47 2 (nI ((nw + 1) % 8))) (by omega) (zLens_u _ hnv) zLens_n (by omega)
  have e47 : ∀ v, g1 47 v = if v = 2 then nI ((nw + 1) % 8) else g 47 v := fun v => by rw [e2 47 (by omega), zup_e]
  have hif : (if (g1 47 3) + 1 < (8 : Int32) then (g1 47 3) + 1 else 8) = nI (if sz < 8 then sz + 1 else 8) := by
    rw [show g1 47 3 = nI sz by rw [e47 3, if_neg (show ¬ (3 : Nat) = 2 by decide), a4], nI_1, show (8 : Int32) = nI 8 from rfl]
    by_cases q : sz + 1 < 8
    · rw [if_pos ((nI_ltI (by omega) (by omega)).mpr q), if_pos (by omega)]
    · rw [if_neg (fun z => q ((nI_ltI (by omega) (by omega)).mp z))]
      by_cases q2 : sz < 8
      · rw [if_pos q2, show sz + 1 = 8 by omega]
      · rw [if_neg q2]
  have h22 : f78_22 K 34 (nI ((nw + 1) % 8)) g = some ((), zup g1 47 3 (nI (if sz < 8 then sz + 1 else 8))) := by
    unfold f78_22 f78_46
    rw [zup_s, f79_eq zl48 (by decide) hnv, zbd_s, zcs_s, zel48 _ hnv, e1, zbd_s, hif]
  refine ⟨zup g1 47 3 (nI (if sz < 8 then sz + 1 else 8)), ?_, fun c hc => ?_, nw, sz, a1, a2, a5, a6, ?_, zup_s _ _ _ _, ?_, fun c q1 q2 q3 => ?_, ?_⟩
  · unfold f78
    rw [a3, nI_1, show (8 : Int32) = nI 8 from rfl]
    by_cases q : nw + 1 < 8
    · rw [if_neg (nI_ge q (by decide)), ← h22, show (nw + 1) % 8 = nw + 1 by omega]
    · rw [if_pos (nI_le (by omega) (by omega)), ← h22, show (nw + 1) % 8 = 0 by omega]
      rfl
  · rw [zup_c (by omega), e2 c (by omega), zup_c (by omega)]
  · rw [zup_k (by decide), e47, if_pos rfl]
  · rw [zup_k (by decide), e47, if_neg (by decide)]
  · rw [zup_c (by omega), e2 c (by omega), zup_c (by omega)]
  · obtain ⟨r1, r2, r3, r4⟩ := e3
    unfold zSame
    rw [zup_c (c2 := 50 + 13 * ((nw + 1) % 8)) (by omega), zup_c (c2 := 50 + 13 * ((nw + 1) % 8) + 2) (by omega), zup_c (c2 := 50 + 13 * ((nw + 1) % 8) + 4) (by omega), zup_c (c2 := 50 + 13 * ((nw + 1) % 8) + 6) (by omega), zup_c (c2 := 50 + 13 * ((nw + 1) % 8) + 8) (by omega), zup_c (c2 := 50 + 13 * ((nw + 1) % 8) + 10) (by omega), zup_c (c2 := 50 + 13 * ((nw + 1) % 8) + 12) (by omega)]
    exact ⟨r1, r2, r3, r4⟩
theorem f188_lp {K : Nat} : ∀ d i n h, i + d = 511 → d < n → h 222 1 = nI 8 → ∃ h1, f188_2 K n (nI i) h = f188_47 K h1 ∧ (∀ c, c ≠ 223 → h1 c = h c) ∧ (∀ k, i ≤ k → k < 511 → h1 223 (219 + k) = h 223 (219 + 73 + k)) ∧ ∀ k, k < 219 + i ∨ 730 ≤ k → h1 223 k = h 223 k := by
  intro d
  induction d with
  | zero =>
    intro i n h h2 h3 h4
    obtain ⟨n, rfl⟩ : ∃ q, n = q + 1 := ⟨n - 1, by omega⟩
    refine ⟨h, ?_, fun c _ => rfl, fun k k1 k2 => by omega, fun k _ => rfl⟩
    rw [f188_2, show (511 : Int32) = nI 511 from rfl, if_pos (nI_le (by omega) (by omega))]
  | succ d ih =>
    intro i n h h2 h3 h4
    obtain ⟨n, rfl⟩ : ∃ q, n = q + 1 := ⟨n - 1, by omega⟩
    obtain ⟨h1, e1, e2, e3, e4⟩ := ih (i + 1) n (zup h 223 (219 + i) (h 223 (219 + i + 73))) (by omega) (by omega) (by rw [zup_c (by decide)]; exact h4)
    refine ⟨h1, ?_, fun c hc => ?_, fun k k1 k2 => ?_, fun k hk => ?_⟩
    · rw [f188_2, show (511 : Int32) = nI 511 from rfl, if_neg (nI_ge (by omega) (by omega)), if_neg (fun q => q h4), show (219 : Int32) = nI 219 from rfl, show (73 : Int32) = nI 73 from rfl, nI_add, nI_add, if_pos (zin_i (by omega) (by decide)), if_pos (zin_i (by omega) (by decide)), nI_clamp (by omega), nI_clamp (by omega), nI_1, e1]
    · rw [e2 c hc, zup_c hc]
    · by_cases hki : k = i
      · rw [hki, e4 (219 + i) (by omega), zup_s, show 219 + 73 + i = 219 + i + 73 by omega]
      · rw [e3 k (by omega) k2, zup_k (by omega)]
    · rw [e4 k (by omega), zup_k (by omega)]
theorem f188_66_sp {K q : Nat} {a b : Int32} {h : zS} (hK : 100 ≤ K) (hq : q ≤ 7) (e : a - b = nI q) : ∃ h1, f188_66 K a b h = some ((), h1) ∧ (∀ c, c ≠ 223 → c ≠ 222 → h1 c = h c) ∧ (∀ k, k ≠ 1 → h1 222 k = h 222 k) ∧ h1 222 1 = nI (q + 1) ∧ (∀ k, k < 73 → h1 223 (219 + 73 * q + k) = h 223 k) ∧ ∀ k, k < 219 + 73 * q ∨ 219 + 73 * q + 73 ≤ k → h1 223 k = h 223 k := by
  obtain ⟨h1, d1, d2, d3, d4⟩ := f189_sp (K := K) (a := 0) (b := 219 + 73 * q) (g := zup h 222 1 (nI q)) (by omega) (by omega) (by omega) (by omega)
  refine ⟨zup h1 222 1 (nI (q + 1)), ?_, fun c q1 q2 => ?_, fun k hk => ?_, zup_s _ _ _ _, fun k hk => ?_, fun k hk => ?_⟩
  · unfold f188_66
    rw [e, zup_s, show (219 : Int32) = nI 219 from rfl, show (73 : Int32) = nI 73 from rfl, nI_mu, nI_add, show (0 : Int32) = nI 0 from rfl, d1, zbd_s, d2 222 (by decide), zup_s, nI_1]
  · rw [zup_c q2, d2 c q1, zup_c q2]
  · rw [zup_k hk, d2 222 (by decide), zup_k hk]
  · rw [zup_c (by decide), d3 k hk, zup_c (by decide), Nat.zero_add]
  · rw [zup_c (by decide), d4 k hk, zup_c (by decide)]
theorem f188_sp {K n : Nat} {g g1 h : zS} (hK : 600 ≤ K) (P : zIpa n g) (S : zIst n 34 0 g) (N : zNext n g g1) (a : ∀ c, 47 ≤ c → c < 180 → h c = g1 c) (b : h 223 = g 223) (c : h 222 1 = g 222 1) (d : h 224 = g 224) (e : h 4 1 = g 4 1) : ∃ h1, f188 K h = some ((), h1) ∧ (∀ c, c ≠ 223 → c ≠ 222 → h1 c = h c) ∧ (∀ k, k ≠ 1 → h1 222 k = h 222 k) ∧ (∀ k, k < 219 → h1 223 k = h 223 k) ∧ zIpa n h1 := by
  obtain ⟨nw, sz, a1, a2, a5, a6, n1, n2, n3, n4, n5⟩ := N
  obtain ⟨-, b0, b1, u1, u2, u3, u4, u5⟩ := P
  have hnv : (nw + 1) % 8 < 8 := by omega
  -- the end, from what both roads give
  have fin : ∀ h1 : zS, ∀ s2 : Nat, s2 = (if sz < 8 then sz + 1 else 8) → (∀ c, c ≠ 223 → c ≠ 222 → h1 c = h c) → h1 222 1 = nI s2 → (∀ k, k < 219 → h1 223 k = h 223 k) → (∀ k, k < 73 → h1 223 (219 + 73 * (s2 - 1) + k) = h 223 k) → (∀ t, t + 1 < s2 → ∀ k, k < 73 → h1 223 (219 + 73 * (s2 - 1 - (t + 1)) + k) = h 223 (219 + 73 * (sz - 1 - t) + k)) → zIpa n h1 := by
    intro h1 s2 hs q1 q2 q3 q4 q5
    have v41 : h1 4 1 = g 4 1 := by rw [q1 4 (by decide) (by decide), e]
    have cc : ∀ c, 47 ≤ c → c < 180 → h1 c = g1 c := fun c r1 r2 => by rw [q1 c (by omega) (by omega), a c r1 r2]
    have cg : ∀ c, 47 < c → c < 180 → (c < 50 + 13 * ((nw + 1) % 8) ∨ 50 + 13 * ((nw + 1) % 8) + 12 < c) → h1 c = g c := fun c r1 r2 r3 => by rw [cc c (by omega) r2, n4 c r1 r2 r3]
    refine ⟨⟨(nw + 1) % 8, s2, hnv, by rw [hs]; split <;> omega, by rw [cc 47 (by decide) (by decide)]; exact n1, by rw [cc 47 (by decide) (by decide), hs]; exact n2, q2, fun t ht => ?_⟩, b0, b1, by rw [cc 47 (by decide) (by decide), n3]; exact u1, by rw [q1 224 (by decide) (by decide), d]; exact u2, by rw [q1 224 (by decide) (by decide), d]; exact u3, fun q => ?_, fun q => ?_⟩
    · cases t with
      | zero =>
        rw [show ((nw + 1) % 8 + 8 - 0) % 8 = (nw + 1) % 8 by omega, Nat.sub_zero]
        refine zIst_copy S ?_ (fun k hk => ?_) v41
        · obtain ⟨r1, r2, r3, r4⟩ := n5
          unfold zSame
          rw [cc (50 + 13 * ((nw + 1) % 8)) (by omega) (by omega), cc (50 + 13 * ((nw + 1) % 8) + 2) (by omega) (by omega), cc (50 + 13 * ((nw + 1) % 8) + 4) (by omega) (by omega), cc (50 + 13 * ((nw + 1) % 8) + 6) (by omega) (by omega), cc (50 + 13 * ((nw + 1) % 8) + 8) (by omega) (by omega), cc (50 + 13 * ((nw + 1) % 8) + 10) (by omega) (by omega), cc (50 + 13 * ((nw + 1) % 8) + 12) (by omega) (by omega)]
          exact ⟨r1, r2, r3, r4⟩
        · rw [q4 k hk, b, Nat.zero_add]
      | succ t =>
        have htz : t < sz := by
          rw [hs] at ht
          split at ht <;> omega
        have ht7 : t + 1 < 8 := by
          rw [hs] at ht
          split at ht <;> omega
        have := a6 t htz
        rw [show ((nw + 1) % 8 + 8 - (t + 1)) % 8 = (nw + 8 - t) % 8 by omega]
        have hc : ∀ j, j ≤ 12 → h1 (50 + 13 * ((nw + 8 - t) % 8) + j) = g (50 + 13 * ((nw + 8 - t) % 8) + j) := fun j hj => cg _ (by omega) (by omega) (by omega)
        refine zIst_copy this ?_ (fun k hk => ?_) v41
        · unfold zSame
          rw [show h1 (50 + 13 * ((nw + 8 - t) % 8)) = g (50 + 13 * ((nw + 8 - t) % 8)) from hc 0 (by omega), hc 2 (by omega), hc 4 (by omega), hc 6 (by omega), hc 8 (by omega), hc 10 (by omega), hc 12 (by omega)]
          exact ⟨rfl, fun k _ => ⟨rfl, rfl, rfl, rfl⟩, fun k _ => rfl, fun k _ => rfl⟩
        · rw [q5 t ht k hk, b]
    · exact zIst_fr (u4 q) (by rw [cg _ (by omega) (by omega) (by omega)]) (fun i _ => by rw [q3 _ (by omega), b]) ⟨cg _ (by omega) (by omega) (by omega), cg _ (by omega) (by omega) (by omega), cg _ (by omega) (by omega) (by omega), cg _ (by omega) (by omega) (by omega), cg _ (by omega) (by omega) (by omega), cg _ (by omega) (by omega) (by omega)⟩ v41
    · exact zIst_fr (u5 q) (by rw [cg _ (by omega) (by omega) (by omega)]) (fun i _ => by rw [q3 _ (by omega), b]) ⟨cg _ (by omega) (by omega) (by omega), cg _ (by omega) (by omega) (by omega), cg _ (by omega) (by omega) (by omega), cg _ (by omega) (by omega) (by omega), cg _ (by omega) (by omega) (by omega), cg _ (by omega) (by omega) (by omega)⟩ v41
  obtain ⟨K, rfl⟩ : ∃ q, K = q + 1 := ⟨K - 1, by omega⟩
  by_cases h8 : sz < 8
  · obtain ⟨h1, d1, d2, d3, d4, d5, d6⟩ := f188_66_sp (K := K + 1) (q := sz) (a := h 222 1) (b := 0) (h := h) (by omega) (by omega) (by rw [c, a5, Int32.sub_zero])
    have ne8 : ¬ h 222 1 = 8 := by
      rw [c, a5, show (8 : Int32) = nI 8 from rfl, nI_eq (by omega) (by omega)]
      omega
    refine ⟨h1, ?_, d2, d3, fun k hk => d6 k (by omega), fin h1 (sz + 1) (by rw [if_pos h8]) d2 d4 (fun k hk => d6 k (by omega)) d5 (fun t ht k hk => ?_)⟩
    · unfold f188
      rw [f188_2, if_neg (by decide), if_pos ne8]
      unfold f188_47
      rw [if_pos ne8, d1]
    · rw [show sz + 1 - 1 - (t + 1) = sz - 1 - t by omega]
      exact d6 _ (by omega)
  · have hs8 : sz = 8 := by omega
    obtain ⟨h0, e1, e2, e3, e4⟩ := f188_lp (K := K + 1) 511 0 (K + 1) h (by omega) (by omega) (by rw [c, a5, hs8])
    have e222 : h0 222 1 = nI 8 := by rw [e2 222 (by decide), c, a5, hs8]
    obtain ⟨h1, d1, d2, d3, d4, d5, d6⟩ := f188_66_sp (K := K + 1) (q := 7) (a := h0 222 1) (b := 1) (h := h0) (by omega) (by omega) (by rw [e222]; decide)
    refine ⟨h1, ?_, fun c q1 q2 => by rw [d2 c q1 q2, e2 c q1], fun k hk => by rw [d3 k hk, e2 222 (by decide)], fun k hk => by rw [d6 k (by omega), e4 k (by omega)], fin h1 8 (by rw [if_neg h8]) (fun c q1 q2 => by rw [d2 c q1 q2, e2 c q1]) d4 (fun k hk => by rw [d6 k (by omega), e4 k (by omega)]) (fun k hk => by rw [d5 k hk, e4 k (by omega)]) (fun t ht k hk => ?_)⟩
    · unfold f188
      rw [show (0 : Int32) = nI 0 from rfl, e1]
      unfold f188_47
      rw [if_neg (fun q => q e222), d1]
    · rw [d6 _ (by omega), show 219 + 73 * (8 - 1 - (t + 1)) + k = 219 + (73 * (6 - t) + k) by omega, e3 _ (by omega) (by omega), hs8, show 219 + 73 + (73 * (6 - t) + k) = 219 + 73 * (8 - 1 - t) + k by omega]
