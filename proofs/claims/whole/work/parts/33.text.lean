-- ===== write, put, line, owes, net =====
theorem zl3 : zlen (2 + 1) = 160 := by decide +kernel
theorem f13_y {K m : Nat} {x : Int32} {g : zS} (h : g 1 1 = nI m) (hm : m < 160) : f13 K x g = some (1, zup (zup g 3 m x) 1 1 (nI (m + 1))) := by
  have e : (zup g 3 m x) 1 1 = nI m := h
  unfold f13
  rw [if_pos (by rw [h]; exact (nI_ltI (b := 160) (by omega) (by decide)).mpr hm), h, f14_eq (by rw [zl3]; exact hm) (by rw [zl3]; decide), zbd_s, e, nI_succ]
theorem f13_n {K m : Nat} {x : Int32} {g : zS} (h : g 1 1 = nI m) (hm : ¬ m < 160) (hm2 : m ≤ 160) : f13 K x g = some (0, g) := by
  unfold f13
  rw [if_neg (by rw [h]; exact fun q => hm ((nI_ltI (b := 160) (by omega) (by decide)).mp q))]
theorem zp_write (K n : Nat) (x : Int32) : zPair (zInv n) (zInv (n + 1)) (f11 K x) (f145 K x) := by
  intro g h
  obtain ⟨⟨m, t1, t2, t3, t4⟩, h2, h3, h4, h5, h6⟩ := zInv_mono n g h
  have I := zInv_mono n g h
  by_cases hw : zwi x 0 255 = 0
  · refine ⟨-3, g, g, ?_, ?_, I⟩
    · unfold f11
      rw [f12_eq, zbd_s, if_neg (fun q => q hw)]
    · unfold f145
      rw [show (0 : Int64) = (0 : Int32).toInt64 from rfl, show (255 : Int64) = (255 : Int32).toInt64 from rfl, f146_eq, zbd_s, if_neg (fun q => q hw)]
  by_cases hm : m < 160
  · refine ⟨nI (m + 1), zup (zup g 3 m x) 1 1 (nI (m + 1)), zup (zup (zup (zup g 3 m x) 1 1 (nI (m + 1))) 225 m x) 222 4 (nI (m + 1)), ?_, ?_, ⟨m + 1, by omega, rfl, rfl, fun i hi => ?_⟩, zIto_fr h2 (fun k _ => by (repeat rw [zup_c (by decide)])) ⟨rfl, rfl, rfl, rfl, rfl⟩ ⟨rfl, rfl, rfl, rfl, rfl, rfl, rfl⟩ ⟨rfl, rfl, rfl, rfl, rfl⟩, zIst_fr h3 rfl (fun i _ => rfl) ⟨rfl, rfl, rfl, rfl, rfl, rfl⟩ rfl, zIpa_fr h4 (fun c _ _ => by (repeat rw [zup_c (by omega)])) rfl (fun i _ => rfl) rfl rfl, zIli_fr h5 rfl rfl rfl rfl rfl, zIdr_fr h6 rfl rfl (fun e _ => ⟨by (repeat rw [zup_c (by omega)]), by (repeat rw [zup_c (by omega)])⟩) rfl rfl rfl⟩
    · unfold f11
      rw [f12_eq, zbd_s, if_pos hw, f13_y t2 hm, zbd_s, if_neg (by decide), zup_s]
    · have e1 : (zup (zup g 3 m x) 1 1 (nI (m + 1))) 222 4 = nI m := t3
      have e2 : (zup (zup (zup g 3 m x) 1 1 (nI (m + 1))) 225 m x) 222 4 = nI m := t3
      unfold f145
      rw [show (0 : Int64) = (0 : Int32).toInt64 from rfl, show (255 : Int64) = (255 : Int32).toInt64 from rfl, f146_eq, zbd_s, if_pos hw, e1, if_pos (fun q => by have := (nI_eq (b := 160) (by omega) (by decide)).mp q; omega), if_pos (zin_i hm (by decide)), nI_clamp (by omega), e2, zup_s, nI_succ]
    · obtain ⟨z1, z2⟩ := zwi_1 hw
      obtain ⟨v, hv, hx⟩ := nI_of2 (M := 255) (n := 255) (by decide) z1 (by rw [Int32.le_iff_toInt_le]; rw [Int32.lt_iff_toInt_lt] at z2; omega)
      have e3 : (zup (zup (zup (zup g 3 m x) 1 1 (nI (m + 1))) 225 m x) 222 4 (nI (m + 1))) 3 i = if i = m then x else g 3 i := by
        rw [zup_c (by decide), zup_c (by decide), zup_c (by decide), zup_e]
      have e4 : (zup (zup (zup (zup g 3 m x) 1 1 (nI (m + 1))) 225 m x) 222 4 (nI (m + 1))) 225 i = if i = m then x else g 225 i := by
        rw [zup_c (by decide), zup_e, zup_c (by decide), zup_c (by decide)]
      rw [e3, e4]
      by_cases him : i = m
      · rw [if_pos him, if_pos him]
        exact ⟨rfl, v, hv, hx⟩
      · rw [if_neg him, if_neg him]
        exact t4 i (by omega)
  · refine ⟨-5, g, g, ?_, ?_, I⟩
    · unfold f11
      rw [f12_eq, zbd_s, if_pos hw, f13_n t2 hm t1, zbd_s, if_pos rfl]
    · unfold f145
      rw [show (0 : Int64) = (0 : Int32).toInt64 from rfl, show (255 : Int64) = (255 : Int32).toInt64 from rfl, f146_eq, zbd_s, if_pos hw, if_neg (fun q => q (by rw [t3, show m = 160 by omega]; rfl))]
/-- the line's put, once the word is one -/
theorem zp_put1 (K n : Nat) (x : Int32) (g : zS) (I : zInv n g) (hx : x = -1 ∨ ∃ w : Nat, w < 10 ∧ x = nI w ∧ nI w < g 4 0) : ∃ r g1 g2, f68_16 K x g = some (r, g1) ∧ f180_16 K x g1 = some (r, g2) ∧ zInv n g2 := by
  obtain ⟨h1, h2, h3, h4, ⟨m, t1, t2, t3, t4⟩, h6⟩ := I
  have I : zInv n g := ⟨h1, h2, h3, h4, ⟨m, t1, t2, t3, t4⟩, h6⟩
  by_cases hm : m < 8
  · refine ⟨nI (m + 1), zup (zup g 182 m x) 180 1 (nI (m + 1)), zup (zup (zup (zup g 182 m x) 180 1 (nI (m + 1))) 232 m x) 222 18 (nI (m + 1)), ?_, ?_, zItx_fr h1 rfl rfl rfl rfl, zIto_fr h2 (fun k _ => by (repeat rw [zup_c (by decide)])) ⟨rfl, rfl, rfl, rfl, rfl⟩ ⟨rfl, rfl, rfl, rfl, rfl, rfl, rfl⟩ ⟨rfl, rfl, rfl, rfl, rfl⟩, zIst_fr h3 rfl (fun i _ => rfl) ⟨rfl, rfl, rfl, rfl, rfl, rfl⟩ rfl, zIpa_fr h4 (fun c _ _ => by (repeat rw [zup_c (by omega)])) rfl (fun i _ => rfl) rfl rfl, ⟨m + 1, by omega, rfl, rfl, fun i hi => ?_⟩, zIdr_fr h6 rfl rfl (fun e _ => ⟨by (repeat rw [zup_c (by omega)]), by (repeat rw [zup_c (by omega)])⟩) rfl rfl rfl⟩
    · have e : (zup g 182 m x) 180 1 = nI m := t2
      unfold f68_16 f69
      rw [if_pos (by rw [t2]; exact (nI_ltI (b := 8) (by omega) (by decide)).mpr hm), t2, f14_eq (by exact hm) (by decide), zbd_s, e, zbd_s, if_neg (by decide), zup_s, nI_succ]
    · have e1 : (zup (zup g 182 m x) 180 1 (nI (m + 1))) 222 18 = nI m := t3
      have e2 : (zup (zup (zup g 182 m x) 180 1 (nI (m + 1))) 232 m x) 222 18 = nI m := t3
      unfold f180_16
      rw [e1, if_pos (fun q => by have := (nI_eq (b := 8) (by omega) (by decide)).mp q; omega), if_pos (zin_i hm (by decide)), nI_clamp (by omega), e2, zup_s, nI_succ]
    · have e3 : (zup (zup (zup (zup g 182 m x) 180 1 (nI (m + 1))) 232 m x) 222 18 (nI (m + 1))) 182 i = if i = m then x else g 182 i := by
        rw [zup_c (by decide), zup_c (by decide), zup_c (by decide), zup_e]
      have e4 : (zup (zup (zup (zup g 182 m x) 180 1 (nI (m + 1))) 232 m x) 222 18 (nI (m + 1))) 232 i = if i = m then x else g 232 i := by
        rw [zup_c (by decide), zup_e, zup_c (by decide), zup_c (by decide)]
      rw [e3, e4]
      by_cases him : i = m
      · rw [if_pos him, if_pos him]
        exact ⟨rfl, hx⟩
      · rw [if_neg him, if_neg him]
        exact t4 i (by omega)
  · refine ⟨-5, g, g, ?_, ?_, I⟩
    · unfold f68_16 f69
      rw [if_neg (by rw [t2]; exact fun q => hm ((nI_ltI (b := 8) (by omega) (by decide)).mp q)), zbd_s, if_pos rfl]
    · unfold f180_16
      rw [if_neg (fun q => q (by rw [t3, show m = 8 by omega]; rfl))]
theorem zp_put (K n : Nat) (x : Int32) : zPair (zInv n) (zInv (n + 1)) (f68 K x) (f180 K x) := by
  intro g h
  have I := zInv_mono n g h
  obtain ⟨w, p, c, r, l, b0, ⟨b1, -⟩, ⟨b2, -⟩, -⟩ := I.2.1
  by_cases hx : x = -1
  · obtain ⟨r, g1, g2, q1, q2, q3⟩ := zp_put1 K (n + 1) x g I (Or.inl hx)
    exact ⟨r, g1, g2, by unfold f68; rw [if_pos hx, q1], by unfold f180; rw [if_pos hx, q2], q3⟩
  by_cases hw : zwi x 0 (g 4 0 - 1) = 0
  · refine ⟨-2, g, g, ?_, ?_, I⟩
    · unfold f68
      rw [if_neg hx, f48_eq, zbd_s, if_neg (fun q => q hw)]
    · unfold f180
      rw [if_neg hx, f167_eq, b2, ← b1, zbd_s, if_neg (fun q => q hw)]
  · have hw2 := hw
    rw [b1] at hw2
    obtain ⟨j, j1, j2⟩ := zwi_cnt (by omega) hw2
    obtain ⟨r, g1, g2, q1, q2, q3⟩ := zp_put1 K (n + 1) x g I (Or.inr ⟨j, by omega, j2, by rw [b1]; exact (nI_ltI (by omega) (by omega)).mpr j1⟩)
    refine ⟨r, g1, g2, ?_, ?_, q3⟩
    · unfold f68
      rw [if_neg hx, f48_eq, zbd_s, if_pos hw, q1]
    · have e0 : g1 222 9 = g 222 9 := by
        revert q1
        unfold f68_16 f69
        obtain ⟨m, t1, t2, -⟩ := I.2.2.2.2.1
        by_cases hm : m < 8
        · rw [if_pos (by rw [t2]; exact (nI_ltI (b := 8) (by omega) (by decide)).mpr hm), t2, f14_eq (by exact hm) (by decide), zbd_s, zbd_s, if_neg (by decide)]
          intro q
          have := (Prod.mk.inj (Option.some.inj q)).2
          rw [← this]
          rfl
        · rw [if_neg (by rw [t2]; exact fun q => hm ((nI_ltI (b := 8) (by omega) (by decide)).mp q)), zbd_s, if_pos rfl]
          intro q
          have := (Prod.mk.inj (Option.some.inj q)).2
          rw [← this]
      unfold f180
      rw [if_neg hx, f167_eq, e0, b2, ← b1, zbd_s, if_pos hw, q2]
theorem zp_line (K n : Nat) (x : Int32) : zPair (zInv n) (zInv (n + 1)) (f71 K x) (f182 K x) := by
  intro g h
  have I := zInv_mono n g h
  obtain ⟨m, t1, t2, t3, t4⟩ := I.2.2.2.2.1
  by_cases hw : zwi x 0 (g 180 1 - 1) = 0
  · refine ⟨-3, g, g, ?_, ?_, I⟩
    · unfold f71
      rw [f12_eq, zbd_s, if_pos hw]
    · unfold f182
      rw [show (0 : Int64) = (0 : Int32).toInt64 from rfl, f146_eq, t3, ← t2, zbd_s, if_pos hw]
  · have hw2 := hw
    rw [t2] at hw2
    obtain ⟨j, j1, rfl⟩ := zwi_cnt (by omega) hw2
    refine ⟨g 182 j, g, g, ?_, ?_, I⟩
    · unfold f71 f62
      rw [f12_eq, zbd_s, if_neg hw, if_neg (nI_pos (by omega)), t2, if_neg (fun q => absurd ((nI_leI (by omega) (by omega)).mp q) (by omega)), f21_eq (by exact (show j < 8 by omega)) (by decide)]
      rfl
    · unfold f182
      rw [show (0 : Int64) = (0 : Int32).toInt64 from rfl, f146_eq, t3, ← t2, zbd_s, if_neg hw, if_pos (zin_i (by omega) (by decide)), nI_clamp (by omega), (t4 j j1).1]
