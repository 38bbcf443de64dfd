-- ===== keep, back =====
theorem zp_keep {K : Nat} (hK : 100 ≤ K) (n : Nat) (x : Int32) : zPair (zInv n) (zInv (n + 1)) (f95 K x) (f198 K x) := by
  intro g h
  have I := zInv_mono n g h
  have I2 := I
  obtain ⟨-, -, s0, ⟨⟨nw, sz, a1, a2, a3, a4, a5, a6⟩, b0, b1, u1, u2, u3, u4, u5⟩, -, -⟩ := I2
  by_cases hw : zwi x 0 1 = 0
  · refine ⟨-2, g, g, ?_, ?_, I⟩
    · unfold f95
      rw [f12_eq, zbd_s, if_neg (fun q => q hw)]
    · unfold f198
      rw [show (0 : Int64) = (0 : Int32).toInt64 from rfl, show (1 : Int64) = (1 : Int32).toInt64 from rfl, f146_eq, zbd_s, if_neg (fun q => q hw)]
  obtain ⟨k, hk, rfl⟩ := zwi_of (b := 1) (by decide) hw
  obtain ⟨g1, e1, e2, e3⟩ := f80_sp (K := K) (s := 154 + 13 * k) (t := 34) (g := g) (by omega) (zLens_k k (by omega)) zLens_n (by omega)
  have c47 : ∀ v, g1 47 v = g 47 v := fun v => by rw [e2 47 (by omega)]
  have hset : (g1 47 4) ||| (1 <<< (nI k &&& 31)) = nI ((if k = 0 then true else b0).toNat + 2 * (if k = 1 then true else b1).toNat) := by
    rw [c47, u1]
    have : k = 0 ∨ k = 1 := by omega
    rcases this with rfl | rfl <;> cases b0 <;> cases b1 <;> decide
  obtain ⟨h1, d1, d2, d3, d4⟩ := f189_sp (K := K) (a := 0) (b := 73 * (1 + k)) (g := zup g1 47 4 (nI ((if k = 0 then true else b0).toNat + 2 * (if k = 1 then true else b1).toNat))) (by omega) (by omega) (by omega) (by omega)
  have v0 : ∀ c, c ≠ 223 → c ≠ 224 → c ≠ 47 → (c < 154 + 13 * k ∨ 154 + 13 * k + 12 < c) → (zup h1 224 k 1) c = g c := fun c q1 q2 q3 q4 => by rw [zup_c q2, d2 c q1, zup_c q3, e2 c q4]
  have v1 : ∀ c, c ≠ 223 → c ≠ 224 → c ≠ 47 → (zup h1 224 k 1) c = g1 c := fun c q1 q2 q3 => by rw [zup_c q2, d2 c q1, zup_c q3]
  have v47 : ∀ v, (zup h1 224 k 1) 47 v = if v = 4 then nI ((if k = 0 then true else b0).toNat + 2 * (if k = 1 then true else b1).toNat) else g 47 v := fun v => by rw [zup_c (by decide), d2 47 (by decide), zup_e, c47]
  have v223 : ∀ v, (v < 73 * (1 + k) ∨ 73 * (1 + k) + 73 ≤ v) → (zup h1 224 k 1) 223 v = g 223 v := fun v q => by rw [zup_c (by decide), d4 v q, zup_c (by decide), e2 223 (by omega)]
  have v41 : (zup h1 224 k 1) 4 1 = g 4 1 := by rw [v0 4 (by decide) (by decide) (by decide) (by omega)]
  have v34 : (zup h1 224 k 1) 34 0 = g 34 0 := by rw [v0 34 (by decide) (by decide) (by decide) (by omega)]
  have keepst : ∀ s o, (s + 12 < 154 + 13 * k ∨ 154 + 13 * k + 12 < s) → (o + 73 ≤ 73 * (1 + k) ∨ 73 * (1 + k) + 73 ≤ o) → (s = 34 ∨ 47 < s) → s < 200 → zIst (n + 1) s o g → zIst (n + 1) s o (zup h1 224 k 1) := fun s o q1 q2 q3 q5 q4 => zIst_fr q4 (by rw [v0 s (by omega) (by omega) (by omega) (by omega)]) (fun i _ => v223 _ (by omega)) ⟨v0 _ (by omega) (by omega) (by omega) (by omega), v0 _ (by omega) (by omega) (by omega) (by omega), v0 _ (by omega) (by omega) (by omega) (by omega), v0 _ (by omega) (by omega) (by omega) (by omega), v0 _ (by omega) (by omega) (by omega) (by omega), v0 _ (by omega) (by omega) (by omega) (by omega)⟩ v41
  have hnew : zIst (n + 1) (154 + 13 * k) (73 * (1 + k)) (zup h1 224 k 1) := by
    refine zIst_copy s0 ?_ (fun j hj => ?_) v41
    · obtain ⟨r1, r2, r3, r4⟩ := e3
      unfold zSame
      rw [v1 (154 + 13 * k) (by omega) (by omega) (by omega), v1 (154 + 13 * k + 2) (by omega) (by omega) (by omega), v1 (154 + 13 * k + 4) (by omega) (by omega) (by omega), v1 (154 + 13 * k + 6) (by omega) (by omega) (by omega), v1 (154 + 13 * k + 8) (by omega) (by omega) (by omega), v1 (154 + 13 * k + 10) (by omega) (by omega) (by omega), v1 (154 + 13 * k + 12) (by omega) (by omega) (by omega)]
      exact ⟨r1, r2, r3, r4⟩
    · rw [zup_c (by decide), d3 j hj, zup_c (by decide), e2 223 (by omega)]
  refine ⟨g 34 0, zup g1 47 4 (nI ((if k = 0 then true else b0).toNat + 2 * (if k = 1 then true else b1).toNat)), zup h1 224 k 1, ?_, ?_, zInv_fr I (fun c q1 q2 q3 q4 => v0 c q1 q2 (by omega) (by omega)) (fun v _ => by rw [v0 222 (by decide) (by decide) (by decide) (by omega)]) (keepst 34 0 (by omega) (by omega) (by omega) (by omega) s0) ⟨⟨nw, sz, a1, a2, by rw [v47]; exact a3, by rw [v47]; exact a4, by rw [v0 222 (by decide) (by decide) (by decide) (by omega)]; exact a5, fun t ht => keepst _ _ (by omega) (by omega) (by omega) (by omega) (a6 t ht)⟩, (if k = 0 then true else b0), (if k = 1 then true else b1), by rw [v47]; rfl, ?_, ?_, fun q => ?_, fun q => ?_⟩⟩
  · unfold f95 f96
    rw [f12_eq, zbd_s, if_pos hw, f79_eq zl49 (by decide) (show k < 2 by omega), zbd_s, zcs_s, zel49 k (by omega), e1, zbd_s, hset, zbd_s, zup_c (by decide), e2 34 (by omega)]
  · unfold f198
    rw [show (0 : Int64) = (0 : Int32).toInt64 from rfl, show (1 : Int64) = (1 : Int32).toInt64 from rfl, f146_eq, zbd_s, if_pos hw, show (73 : Int32) = nI 73 from rfl, show (1 : Int32) = nI 1 from rfl, nI_add, nI_mu, show (0 : Int32) = nI 0 from rfl, d1, zbd_s, if_pos (zin_i (by omega) (by decide)), if_pos (zin_i (by omega) (by decide)), nI_clamp (by omega), nI_clamp (by omega), s0.2.1, show (nI 1 : Int32) = 1 from rfl, v223 0 (by omega)]
  · have : k = 0 ∨ k = 1 := by omega
    rcases this with rfl | rfl
    · exact zup_s _ _ _ _
    · rw [zup_k (by decide), d2 224 (by decide), zup_c (by decide), e2 224 (by omega)]
      exact u2
  · have : k = 0 ∨ k = 1 := by omega
    rcases this with rfl | rfl
    · rw [zup_k (by decide), d2 224 (by decide), zup_c (by decide), e2 224 (by omega)]
      exact u3
    · exact zup_s _ _ _ _
  · have : k = 0 ∨ k = 1 := by omega
    rcases this with rfl | rfl
    · exact hnew
    · exact keepst _ _ (by omega) (by omega) (by omega) (by omega) (u4 q)
  · have : k = 0 ∨ k = 1 := by omega
    rcases this with rfl | rfl
    · exact keepst _ _ (by omega) (by omega) (by omega) (by omega) (u5 q)
    · exact hnew
theorem zp_back {K : Nat} (hK : 100 ≤ K) (n : Nat) (x : Int32) : zPair (zInv n) (zInv (n + 1)) (f97 K x) (f199 K x) := by
  intro g h
  have I := zInv_mono n g h
  have I2 := I
  obtain ⟨-, -, s0, ⟨⟨nw, sz, a1, a2, a3, a4, a5, a6⟩, b0, b1, u1, u2, u3, u4, u5⟩, -, -⟩ := I2
  by_cases hw : zwi x 0 1 = 0
  · refine ⟨-2, g, g, ?_, ?_, I⟩
    · unfold f97
      rw [f12_eq, zbd_s, if_neg (fun q => q hw)]
    · unfold f199
      rw [show (0 : Int64) = (0 : Int32).toInt64 from rfl, show (1 : Int64) = (1 : Int32).toInt64 from rfl, f146_eq, zbd_s, if_neg (fun q => q hw)]
  obtain ⟨k, hk, rfl⟩ := zwi_of (b := 1) (by decide) hw
  have hbit : ((g 47 4 >>> (nI k &&& 31)) &&& 1) = nI (if k = 0 then b0 else b1).toNat := by
    rw [u1]
    have : k = 0 ∨ k = 1 := by omega
    rcases this with rfl | rfl <;> cases b0 <;> cases b1 <;> decide
  have hflag : g 224 k = nI (if k = 0 then b0 else b1).toNat := by
    have : k = 0 ∨ k = 1 := by omega
    rcases this with rfl | rfl
    · exact u2
    · exact u3
  by_cases hb : (if k = 0 then b0 else b1) = false
  · rw [hb] at hbit hflag
    refine ⟨-4, g, g, ?_, ?_, I⟩
    · unfold f97 f98 f64
      rw [f12_eq, zbd_s, if_pos hw, f79_eq zl49 (by decide) (show k < 2 by omega), zbd_s, zcs_s, hbit, if_pos (by decide), zbd_s, if_neg (fun q => q rfl), zbd_s, if_pos rfl]
    · unfold f199
      rw [show (0 : Int64) = (0 : Int32).toInt64 from rfl, show (1 : Int64) = (1 : Int32).toInt64 from rfl, f146_eq, zbd_s, if_pos hw, if_pos (zin_i (by omega) (by decide)), nI_clamp (by omega), hflag, if_neg (fun q => q rfl)]
  have hb2 : (if k = 0 then b0 else b1) = true := by
    revert hb
    cases (if k = 0 then b0 else b1) <;> simp
  rw [hb2] at hbit hflag
  have st : zIst (n + 1) (154 + 13 * k) (73 * (1 + k)) g := by
    have : k = 0 ∨ k = 1 := by omega
    rcases this with rfl | rfl
    · exact u4 hb2
    · exact u5 hb2
  obtain ⟨g1, e1, e2, e3⟩ := f80_sp (K := K) (s := 34) (t := 154 + 13 * k) (g := g) (by omega) zLens_n (zLens_k k (by omega)) (by omega)
  obtain ⟨h1, d1, d2, d3, d4⟩ := f189_sp (K := K) (a := 73 * (1 + k)) (b := 0) (g := zup g1 47 3 0) (by omega) (by omega) (by omega) (by omega)
  have v0 : ∀ c, c ≠ 223 → c ≠ 222 → c ≠ 47 → (c < 34 ∨ 46 < c) → (zup h1 222 1 0) c = g c := fun c q1 q2 q3 q4 => by rw [zup_c q2, d2 c q1, zup_c q3, e2 c (by omega)]
  have v1 : ∀ c, c ≠ 223 → c ≠ 222 → c ≠ 47 → (zup h1 222 1 0) c = g1 c := fun c q1 q2 q3 => by rw [zup_c q2, d2 c q1, zup_c q3]
  have v47 : ∀ v, (zup h1 222 1 0) 47 v = if v = 3 then 0 else g 47 v := fun v => by rw [zup_c (by decide), d2 47 (by decide), zup_e, e2 47 (by omega)]
  have v223 : ∀ v, 73 ≤ v → (zup h1 222 1 0) 223 v = g 223 v := fun v q => by rw [zup_c (by decide), d4 v (by omega), zup_c (by decide), e2 223 (by omega)]
  have v41 : (zup h1 222 1 0) 4 1 = g 4 1 := by rw [v0 4 (by decide) (by decide) (by decide) (by omega)]
  have v224 : (zup h1 222 1 0) 224 = g 224 := v0 224 (by decide) (by decide) (by decide) (by omega)
  have v222 : ∀ v, v ≠ 1 → (zup h1 222 1 0) 222 v = g 222 v := fun v q => by rw [zup_k q, d2 222 (by decide), zup_c (by decide), e2 222 (by omega)]
  have keepst : ∀ s o, 47 < s → s < 200 → 73 ≤ o → zIst (n + 1) s o g → zIst (n + 1) s o (zup h1 222 1 0) := fun s o q1 q3 q2 q4 => zIst_fr q4 (by rw [v0 s (by omega) (by omega) (by omega) (by omega)]) (fun i _ => v223 _ (by omega)) ⟨v0 _ (by omega) (by omega) (by omega) (by omega), v0 _ (by omega) (by omega) (by omega) (by omega), v0 _ (by omega) (by omega) (by omega) (by omega), v0 _ (by omega) (by omega) (by omega) (by omega), v0 _ (by omega) (by omega) (by omega) (by omega), v0 _ (by omega) (by omega) (by omega) (by omega)⟩ v41
  have hnew : zIst (n + 1) 34 0 (zup h1 222 1 0) := by
    refine zIst_copy st ?_ (fun j hj => ?_) v41
    · obtain ⟨r1, r2, r3, r4⟩ := e3
      unfold zSame
      rw [v1 34 (by decide) (by decide) (by decide), v1 (34 + 2) (by decide) (by decide) (by decide), v1 (34 + 4) (by decide) (by decide) (by decide), v1 (34 + 6) (by decide) (by decide) (by decide), v1 (34 + 8) (by decide) (by decide) (by decide), v1 (34 + 10) (by decide) (by decide) (by decide), v1 (34 + 12) (by decide) (by decide) (by decide)]
      exact ⟨r1, r2, r3, r4⟩
    · rw [zup_c (by decide), d3 j hj, zup_c (by decide), e2 223 (by omega)]
  refine ⟨g1 34 0, zup g1 47 3 0, zup h1 222 1 0, ?_, ?_, zInv_fr I (fun c q1 q2 q3 q4 => v0 c q1 q3 (by omega) (by omega)) v222 hnew ⟨⟨nw, 0, a1, by omega, by rw [v47]; exact a3, by rw [v47]; rfl, zup_s _ _ _ _, fun t ht => by omega⟩, b0, b1, by rw [v47]; exact u1, by rw [v224]; exact u2, by rw [v224]; exact u3, fun q => keepst _ _ (by omega) (by omega) (by omega) (u4 q), fun q => keepst _ _ (by omega) (by omega) (by omega) (u5 q)⟩⟩
  · unfold f97 f98 f64
    rw [f12_eq, zbd_s, if_pos hw, f79_eq zl49 (by decide) (show k < 2 by omega), zbd_s, zcs_s, hbit, if_neg (by decide), zbd_s, if_pos (by decide), zel49 k (by omega), e1, zbd_s, zbd_s, if_neg (by decide), zup_c (by decide)]
  · have q0 := hnew.2.1
    rw [v1 34 (by decide) (by decide) (by decide)] at q0
    unfold f199
    have q1 : (zup g1 47 3 0) 224 k = nI true.toNat := by rw [zup_c (by decide), e2 224 (by omega)]; exact hflag
    rw [show (0 : Int64) = (0 : Int32).toInt64 from rfl, show (1 : Int64) = (1 : Int32).toInt64 from rfl, f146_eq, zbd_s, if_pos hw, if_pos (zin_i (by omega) (by decide)), nI_clamp (by omega), q1, if_pos (by decide), show (73 : Int32) = nI 73 from rfl, show (1 : Int32) = nI 1 from rfl, nI_add, nI_mu, show f189 K (nI (73 * (1 + k))) 0 (zup g1 47 3 0) = some ((), h1) from d1, zbd_s, if_pos (by decide), q0]
    rfl
