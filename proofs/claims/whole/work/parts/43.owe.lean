-- ===== owe, trade =====
theorem nI_lit1 : (1 : Int32) = nI 1 := rfl
theorem i64_0 : (0 : Int64) = (0 : Int32).toInt64 := rfl
theorem i64_1 : (1 : Int64) = (1 : Int32).toInt64 := rfl
theorem i64_2 : (2 : Int64) = (2 : Int32).toInt64 := rfl
theorem i64_3 : (3 : Int64) = (3 : Int32).toInt64 := rfl
theorem i64_4 : (4 : Int64) = (4 : Int32).toInt64 := rfl
theorem i64_5 : (5 : Int64) = (5 : Int32).toInt64 := rfl
theorem i64_7 : (7 : Int64) = (7 : Int32).toInt64 := rfl
theorem i64_10 : (10 : Int64) = (10 : Int32).toInt64 := rfl
theorem i64_60 : (60 : Int64) = (60 : Int32).toInt64 := rfl
theorem i64_99 : (99 : Int64) = (99 : Int32).toInt64 := rfl
theorem i64_999 : (999 : Int64) = (999 : Int32).toInt64 := rfl
theorem zwi_ab {x : Int32} {a b : Nat} (ha : a < 2 ^ 31) (hb : b < 2 ^ 31) (h : ¬ zwi x (nI a) (nI b) = 0) : ∃ j : Nat, a ≤ j ∧ j ≤ b ∧ x = nI j := by
  obtain ⟨h1, h2⟩ := zwi_1 h
  have h0 : ¬ x < 0 := by
    rw [Int32.lt_iff_toInt_lt, nI_toInt ha] at h1
    rw [Int32.lt_iff_toInt_lt, show (0 : Int32).toInt = 0 from rfl]
    omega
  obtain ⟨j, h3, rfl⟩ := nI_of h0
  exact ⟨j, Nat.le_of_not_lt fun q => h1 ((nI_ltI h3 ha).mpr q), Nat.le_of_not_lt fun q => h2 ((nI_ltI hb h3).mpr q), rfl⟩
theorem f82_eq {K o i : Nat} {v : Int32} {g : zS} (h : i < zlen (o + 1)) (hn : zlen (o + 1) < 2 ^ 31) : f82 K o (nI i) v g = some ((), zup g (o + 1) i (g (o + 1) i + v)) := by
  unfold f82
  rw [f21_eq h hn, zbd_s, f14_eq h hn, zbd_s]
theorem f91_eq {K i j : Nat} {v : Int32} {g : zS} (h : i < 4) (h2 : j < 4) : f91 K 34 (nI i) (nI j) v g = some ((), zup g 46 (i * 4 + j) v) := by
  unfold f91
  rw [show (4 : Int32) = nI 4 from rfl, nI_mu, nI_add, f14_eq (by exact (show i * 4 + j < 16 by omega)) (by decide), zbd_s]
theorem f90_eq {K i j : Nat} {g : zS} (h : i < 4) (h2 : j < 4) : f90 K 34 (nI i) (nI j) g = some (g 46 (i * 4 + j), g) := by
  unfold f90
  rw [show (4 : Int32) = nI 4 from rfl, nI_mu, nI_add, f21_eq (by exact (show i * 4 + j < 16 by omega)) (by decide), zbd_s]
/-- the class's part of a step that is remembered, then the reference's -/
theorem zstep_fr {n : Nat} {g g1 h h1 h2 : zS} (I : zInv n g) (a : ∀ c, c < 47 ∨ 179 < c → g1 c = g c) (b : ∀ c, c < 34 ∨ 46 < c → h c = g1 c) (d : ∀ c, c ≠ 223 → c ≠ 222 → h1 c = h c) (e : ∀ k, k ≠ 1 → h1 222 k = h 222 k) (P : zIpa n h1) (u : ∀ c, c ≠ 223 → h2 c = h1 c) (v : ∀ k, 73 ≤ k → h2 223 k = h1 223 k) (w : zIst n 34 0 h2) : zInv n h2 := by
  refine zInv_fr I (fun c q1 q2 q3 q4 => by rw [u c q1, d c q1 q3, b c (by omega), a c (by omega)]) (fun k hk => by rw [u 222 (by decide), e k hk, b 222 (by omega), a 222 (by omega)]) w ?_
  exact zIpa_fr P (fun c q1 q2 => u c (by omega)) (by rw [u 222 (by decide)]) v (u 224 (by decide)) (by rw [u 4 (by decide)])
theorem zp_owe {K : Nat} (hK : 600 ≤ K) (n : Nat) (x y z : Int32) : zPair (zInv n) (zInv (n + 1)) (f89 K x y z) (f195 K x y z) := by
  intro g h
  have I := zInv_mono n g h
  obtain ⟨w, p, c, r, l, b0, ⟨-, b1, -⟩, ⟨-, b2, -⟩, -⟩ := I.2.1
  have S := I.2.2.1
  have P := I.2.2.2.1
  obtain ⟨s1, s2, s3, s4, s5, s6⟩ := I.2.2.1
  by_cases hw : zwt x y (nI p) = 0
  · refine ⟨-2, g, g, ?_, ?_, I⟩
    · unfold f89
      rw [f88_eq, zbd_s, b1, if_neg (fun q => q hw)]
    · unfold f195
      rw [f194_eq, zbd_s, b2, if_neg (fun q => q hw)]
  obtain ⟨a, b, a1, a2, ab, rfl, rfl⟩ := zwt_of (by omega) hw
  by_cases hz : zwi z 1 99 = 0
  · refine ⟨-3, g, g, ?_, ?_, I⟩
    · unfold f89
      rw [f88_eq, zbd_s, b1, if_pos hw, f12_eq, zbd_s, if_neg (fun q => q hz)]
    · unfold f195
      rw [f194_eq, zbd_s, b2, if_pos hw, i64_1, i64_99, f146_eq, zbd_s, if_neg (fun q => q hz)]
  obtain ⟨m, m1, m2, rfl⟩ := zwi_ab (a := 1) (b := 99) (by decide) (by decide) hz
  obtain ⟨e1, t, t1, t2⟩ := s5 (a * 4 + b) (by omega)
  have t2 : g 46 (a * 4 + b) = nI t := t2
  have e3 : g 223 (57 + 4 * a + b) = nI t := by
    rw [← t2]
    exact (e1.trans (by rw [show 0 + 57 + (a * 4 + b) = 57 + 4 * a + b by omega])).symm
  by_cases hf : t + m ≤ 999
  · obtain ⟨g1, r1, r2, r3⟩ := f78_sp (K := K) (by omega) P
    obtain ⟨h1, q1, q2, q3, q4, q5⟩ := f188_sp (K := K) (h := zup g1 46 (a * 4 + b) (nI (t + m))) (by omega) P S r3 (fun c h1 h2 => zup_c (by omega)) (by rw [zup_c (by decide), r2 223 (by omega)]) (by rw [zup_c (by decide), r2 222 (by omega)]) (by rw [zup_c (by decide), r2 224 (by omega)]) (by rw [zup_c (by decide), r2 4 (by omega)])
    have k223 : ∀ k, k < 73 → h1 223 k = g 223 k := fun k hk => by rw [q4 k (by omega), zup_c (by decide), r2 223 (by omega)]
    have v34 : ∀ c, c ≠ 46 → 33 < c → c < 46 → (zup h1 223 (57 + 4 * a + b) (nI (t + m))) c = g c := fun c u1 u2 u3 => by rw [zup_c (by omega), q2 c (by omega) (by omega), zup_c u1, r2 c (by omega)]
    have v46 : ∀ k, (zup h1 223 (57 + 4 * a + b) (nI (t + m))) 46 k = if k = a * 4 + b then nI (t + m) else g 46 k := fun k => by rw [zup_c (by omega), q2 46 (by omega) (by omega), zup_e, r2 46 (by omega)]
    have v223 : ∀ k, k < 73 → (zup h1 223 (57 + 4 * a + b) (nI (t + m))) 223 k = if k = 57 + 4 * a + b then nI (t + m) else g 223 k := fun k hk => by rw [zup_e, k223 k hk]
    refine ⟨nI (t + m), zup g1 46 (a * 4 + b) (nI (t + m)), zup h1 223 (57 + 4 * a + b) (nI (t + m)), ?_, ?_, zstep_fr I r2 (fun c hc => zup_c (by omega)) q2 q3 q5 (fun c hc => zup_c hc) (fun k hk => zup_k (by omega)) ?_⟩
    · unfold f89
      rw [f88_eq, zbd_s, b1, if_pos hw, f12_eq, zbd_s, if_pos hz, f90_eq (by omega) (by omega), zbd_s, t2, nI_add, show (999 : Int32) = nI 999 from rfl, if_pos (nI_le hf (by omega)), r1, zbd_s, f91_eq (by omega) (by omega), zbd_s]
    · unfold f195
      rw [f194_eq, zbd_s]
      rw [show (zup g1 46 (a * 4 + b) (nI (t + m))) 222 14 = nI p by rw [zup_c (by decide), r2 222 (by omega), b2], if_pos hw, i64_1, i64_99, f146_eq, zbd_s, if_pos hz, show (4 : Int32) = nI 4 from rfl, show (57 : Int32) = nI 57 from rfl, nI_mu, nI_add, nI_add, if_pos (zin_i (by omega) (by decide)), nI_clamp (by omega), show (zup g1 46 (a * 4 + b) (nI (t + m))) 223 (57 + 4 * a + b) = nI t by rw [zup_c (by decide), r2 223 (by omega), e3], nI_add, show (999 : Int32) = nI 999 from rfl, if_pos (nI_le hf (by omega)), q1, zbd_s, if_pos (zin_i (by omega) (by decide)), if_pos (zin_i (by omega) (by decide)), if_pos (zin_i (by omega) (by decide)), k223 _ (by omega), e3, nI_add, zup_s]
    · refine ⟨?_, ?_, fun i hi => ?_, fun i hi => ?_, fun i hi => ?_, fun i hi hp => ?_⟩
      · rw [v34 34 (by decide) (by decide) (by decide)]; exact s1
      · rw [v34 34 (by decide) (by decide) (by decide), v223 0 (by omega), if_neg (by omega)]; exact s2
      · rw [v34 (34 + 2) (by decide) (by decide) (by decide), v34 (34 + 4) (by decide) (by decide) (by decide), v34 (34 + 6) (by decide) (by decide) (by decide), v34 (34 + 8) (by decide) (by decide) (by decide), v223 _ (by omega), v223 _ (by omega), v223 _ (by omega), v223 _ (by omega), if_neg (by omega), if_neg (by omega), if_neg (by omega), if_neg (by omega)]
        exact s3 i hi
      · rw [v34 (34 + 10) (by decide) (by decide) (by decide), v223 _ (by omega), if_neg (by omega)]
        exact s4 i hi
      · show (zup h1 223 (57 + 4 * a + b) (nI (t + m))) 46 i = _ ∧ ∃ t2 : Nat, t2 ≤ 999 ∧ (zup h1 223 (57 + 4 * a + b) (nI (t + m))) 46 i = nI t2
        rw [v46, v223 _ (by omega)]
        by_cases hi2 : i = a * 4 + b
        · rw [if_pos hi2, if_pos (by omega)]
          exact ⟨rfl, t + m, hf, rfl⟩
        · rw [if_neg hi2, if_neg (by omega)]
          exact s5 i hi
      · have hp2 : ¬ nI i < g 4 1 := by
          rw [zup_c (by decide), q2 4 (by decide) (by decide), zup_c (by decide), r2 4 (by omega)] at hp
          exact hp
        have hip : ¬ i < p := fun q => hp2 (by rw [b1]; exact (nI_ltI (by omega) (by omega)).mpr q)
        obtain ⟨z1, z2, z3, z4⟩ := s6 i hi hp2
        rw [v34 (34 + 2) (by decide) (by decide) (by decide), v34 (34 + 4) (by decide) (by decide) (by decide), v34 (34 + 10) (by decide) (by decide) (by decide)]
        refine ⟨z1, z2, z3, fun j hj => ?_⟩
        show (zup h1 223 (57 + 4 * a + b) (nI (t + m))) 46 _ = 0 ∧ (zup h1 223 (57 + 4 * a + b) (nI (t + m))) 46 _ = 0
        rw [v46, v46, if_neg (by omega), if_neg (by omega)]
        exact z4 j hj
  · refine ⟨-5, g, g, ?_, ?_, I⟩
    · unfold f89
      rw [f88_eq, zbd_s, b1, if_pos hw, f12_eq, zbd_s, if_pos hz, f90_eq (by omega) (by omega), zbd_s, t2, nI_add, show (999 : Int32) = nI 999 from rfl, if_neg (nI_ge (by omega) (by omega))]
    · unfold f195
      rw [f194_eq, zbd_s, b2, if_pos hw, i64_1, i64_99, f146_eq, zbd_s, if_pos hz, show (4 : Int32) = nI 4 from rfl, show (57 : Int32) = nI 57 from rfl, nI_mu, nI_add, nI_add, if_pos (zin_i (by omega) (by decide)), nI_clamp (by omega), e3, nI_add, show (999 : Int32) = nI 999 from rfl, if_neg (nI_ge (by omega) (by omega))]
