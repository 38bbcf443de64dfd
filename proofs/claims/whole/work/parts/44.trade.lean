-- ===== trade =====
theorem zsubneg (a b : Int32) : a + -b = a - b := (Int32.sub_eq_add_neg a b).symm
theorem zl36 : zlen (35 + 1) = 4 := by decide +kernel
theorem zl38 : zlen (37 + 1) = 4 := by decide +kernel
def ztrA (g : zS) (a : Nat) (m : Int32) : zS := zup g 223 (1 + a) (g 223 (1 + a) - m)
def ztrB (g : zS) (a b : Nat) (m : Int32) : zS := zup (ztrA g a m) 223 (1 + b) ((ztrA g a m) 223 (1 + b) + m)
def ztrC (g : zS) (a b : Nat) (m v : Int32) : zS := zup (ztrB g a b m) 223 (5 + a) ((ztrB g a b m) 223 (5 + a) + v)
def ztrD (g : zS) (a b : Nat) (m v : Int32) : zS := zup (ztrC g a b m v) 223 (5 + b) ((ztrC g a b m v) 223 (5 + b) - v)
theorem zp_trade {K : Nat} (hK : 600 ≤ K) (n : Nat) (x y z v : Int32) : zPair (zInv n) (zInv (n + 1)) (f87 K x y z v) (f193 K x y z v) := by
  intro g h
  have I := zInv_mono n g h
  obtain ⟨w, p, c, r, l, b0, ⟨-, b1, -⟩, ⟨-, b2, -⟩, -⟩ := I.2.1
  have S := I.2.2.1
  have P := I.2.2.2.1
  obtain ⟨s1, s2, s3, s4, s5, s6⟩ := I.2.2.1
  by_cases hw : zwt x y (nI p) = 0
  · refine ⟨-2, g, g, ?_, ?_, I⟩
    · unfold f87
      rw [f88_eq, zbd_s, b1, if_neg (fun q => q hw)]
    · unfold f193
      rw [f194_eq, zbd_s, b2, if_neg (fun q => q hw)]
  obtain ⟨a, b, a1, a2, ab, rfl, rfl⟩ := zwt_of (by omega) hw
  by_cases hz : zwi z 1 60 = 0
  · refine ⟨-3, g, g, ?_, ?_, I⟩
    · unfold f87
      rw [f88_eq, zbd_s, b1, if_pos hw, f12_eq, zbd_s, if_pos hz]
    · unfold f193
      rw [f194_eq, zbd_s, b2, if_pos hw, i64_1, i64_60, f146_eq, zbd_s, if_pos hz]
  obtain ⟨m, m1, m2, rfl⟩ := zwi_ab (a := 1) (b := 60) (by decide) (by decide) hz
  by_cases hv : zwi v 0 99 = 0
  · refine ⟨-3, g, g, ?_, ?_, I⟩
    · unfold f87
      rw [f88_eq, zbd_s, b1, if_pos hw, f12_eq, zbd_s, if_neg hz, f12_eq, zbd_s, if_neg (fun q => q hv)]
    · unfold f193
      rw [f194_eq, zbd_s, b2, if_pos hw, i64_1, i64_60, f146_eq, zbd_s, if_neg hz, i64_0, i64_99, f146_eq, zbd_s, if_neg (fun q => q hv)]
  obtain ⟨x1, x2, -, -, ha, ha1, ha2⟩ := s3 a (by omega)
  obtain ⟨y1, y2, -, -, hb, hb1, hb2⟩ := s3 b (by omega)
  have ha2 : g 36 a = nI ha := ha2
  have hb2 : g 36 b = nI hb := hb2
  have x1 : g 223 (1 + a) = nI ha := by rw [← ha2]; exact (x1.trans (by rw [Nat.zero_add])).symm
  have y1 : g 223 (1 + b) = nI hb := by rw [← hb2]; exact (y1.trans (by rw [Nat.zero_add])).symm
  have x2 : g 223 (5 + a) = g 38 a := (x2.trans (by rw [Nat.zero_add])).symm
  have y2 : g 223 (5 + b) = g 38 b := (y2.trans (by rw [Nat.zero_add])).symm
  have C1 : f87 K (nI a) (nI b) (nI m) v g = if nI ha < nI m then some (-4, g) else if v ≤ g 38 b then if nI hb + nI m ≤ 60 then zbd (f78 K 34 g) fun _ g161 => zbd (f82 K 35 (nI a) (-nI m) g161) fun _ g164 => zbd (f82 K 35 (nI b) (nI m) g164) fun _ g167 => zbd (f82 K 37 (nI b) (-v) g167) fun _ g170 => zbd (f82 K 37 (nI a) v g170) fun _ g173 => zbd (f21 K 35 (nI b) g173) fun r177 g176 => some (r177, g176) else some (-5, g) else some (-4, g) := by
    unfold f87
    rw [f88_eq, zbd_s, b1, if_pos hw, f12_eq, zbd_s, if_neg hz, f12_eq, zbd_s, if_pos hv, f21_eq (by rw [zl36]; omega) (by rw [zl36]; decide), zbd_s, f21_eq (by rw [zl38]; omega) (by rw [zl38]; decide), zbd_s, f21_eq (by rw [zl36]; omega) (by rw [zl36]; decide), zbd_s, ha2, hb2]
  have R1 : ∀ g' : zS, g' 222 14 = nI p → (∀ k, k < 73 → g' 223 k = g 223 k) → f193 K (nI a) (nI b) (nI m) v g' = if nI ha < nI m then some (-4, g') else if v ≤ g 38 b then if nI hb + nI m ≤ 60 then zbd (f188 K g') fun _ g128 => some ((ztrD g128 a b (nI m) v) 223 (1 + b), ztrD g128 a b (nI m) v) else some (-5, g') else some (-4, g') := by
    intro g' k1 k2
    have i1 : (1 : Int32) + nI a = nI (1 + a) := nI_add 1 a
    have i2 : (1 : Int32) + nI b = nI (1 + b) := nI_add 1 b
    have i3 : (5 : Int32) + nI a = nI (5 + a) := nI_add 5 a
    have i4 : (5 : Int32) + nI b = nI (5 + b) := nI_add 5 b
    have j1 : zin (nI (1 + a)) 803 := zin_i (by omega) (by decide)
    have j2 : zin (nI (1 + b)) 803 := zin_i (by omega) (by decide)
    have j3 : zin (nI (5 + a)) 803 := zin_i (by omega) (by decide)
    have j4 : zin (nI (5 + b)) 803 := zin_i (by omega) (by decide)
    have c1 : (nI (1 + a)).toNatClampNeg = 1 + a := nI_clamp (by omega)
    have c2 : (nI (1 + b)).toNatClampNeg = 1 + b := nI_clamp (by omega)
    have c3 : (nI (5 + a)).toNatClampNeg = 5 + a := nI_clamp (by omega)
    have c4 : (nI (5 + b)).toNatClampNeg = 5 + b := nI_clamp (by omega)
    unfold f193
    rw [f194_eq, zbd_s, k1, if_pos hw, i64_1, i64_60, f146_eq, zbd_s, if_neg hz, i64_0, i64_99, f146_eq, zbd_s, if_pos hv]
    simp only [i1, i2, i3, i4, if_pos j1, if_pos j2, if_pos j3, if_pos j4, c1, c2, c3, c4]
    rw [k2 (1 + a) (by omega), k2 (1 + b) (by omega), k2 (5 + b) (by omega), x1, y1, y2]
    rfl
  by_cases q1 : nI ha < nI m
  · exact ⟨-4, g, g, by rw [C1, if_pos q1], by rw [R1 g b2 (fun k _ => rfl), if_pos q1], I⟩
  by_cases q2 : v ≤ g 38 b
  · by_cases q3 : nI hb + nI m ≤ 60
    · obtain ⟨g1, r1, r2, r3⟩ := f78_sp (K := K) (by omega) P
      have hm : m ≤ ha := Nat.le_of_not_lt fun q => q1 ((nI_ltI (by omega) (by omega)).mpr q)
      have hm2 : hb + m ≤ 60 := by
        rw [nI_add, show (60 : Int32) = nI 60 from rfl] at q3
        exact (nI_leI (by omega) (by omega)).mp q3
      have eA : nI ha - nI m = nI (ha - m) := pk_sub hm
      obtain ⟨G, hG⟩ : ∃ G, G = zup (zup (zup (zup g1 36 a (nI (ha - m))) 36 b (nI (hb + m))) 38 b (g 38 b - v)) 38 a (g 38 a + v) := ⟨_, rfl⟩
      have GC : f87 K (nI a) (nI b) (nI m) v g = some (nI (hb + m), G) := by
        rw [C1, if_neg q1, if_pos q2, if_pos q3, r1, zbd_s, f82_eq (by rw [zl36]; omega) (by rw [zl36]; decide), zbd_s, f82_eq (by rw [zl36]; omega) (by rw [zl36]; decide), zbd_s, f82_eq (by rw [zl38]; omega) (by rw [zl38]; decide), zbd_s, f82_eq (by rw [zl38]; omega) (by rw [zl38]; decide), zbd_s, f21_eq (by rw [zl36]; omega) (by rw [zl36]; decide), zbd_s]
        have t1 : g1 (35 + 1) a = nI ha := by rw [r2 _ (by omega)]; exact ha2
        have t2 : g1 (35 + 1) b = nI hb := by rw [r2 _ (by omega)]; exact hb2
        have t3 : g1 (37 + 1) a = g 38 a := by rw [r2 _ (by omega)]
        have t4 : g1 (37 + 1) b = g 38 b := by rw [r2 _ (by omega)]
        have u1 : ∀ X : Int32, (zup g1 (35 + 1) a X) (35 + 1) b = nI hb := fun X => by rw [zup_k (by omega), t2]
        have u2 : ∀ X Y : Int32, (zup (zup g1 (35 + 1) a X) (35 + 1) b Y) (37 + 1) b = g 38 b := fun X Y => by rw [zup_c (by decide), zup_c (by decide), t4]
        have u3 : ∀ X Y Z : Int32, (zup (zup (zup g1 (35 + 1) a X) (35 + 1) b Y) (37 + 1) b Z) (37 + 1) a = g 38 a := fun X Y Z => by rw [zup_k (by omega), zup_c (by decide), zup_c (by decide), t3]
        have u4 : ∀ X Y Z V : Int32, (zup (zup (zup (zup g1 (35 + 1) a X) (35 + 1) b Y) (37 + 1) b Z) (37 + 1) a V) (35 + 1) b = Y := fun X Y Z V => by rw [zup_c (by decide), zup_c (by decide), zup_s]
        rw [u4, u3, u2, u1, t1, zsubneg, zsubneg, eA, nI_add, hG]
      have hGc : ∀ c, c ≠ 36 → c ≠ 38 → G c = g1 c := fun c d1 d2 => by rw [hG, zup_c d2, zup_c d2, zup_c d1, zup_c d1]
      obtain ⟨h1, v1, v2, v3, v4, v5⟩ := f188_sp (K := K) (h := G) (by omega) P S r3 (fun c d1 d2 => hGc c (by omega) (by omega)) (by rw [hGc 223 (by decide) (by decide), r2 223 (by omega)]) (by rw [hGc 222 (by decide) (by decide), r2 222 (by omega)]) (by rw [hGc 224 (by decide) (by decide), r2 224 (by omega)]) (by rw [hGc 4 (by decide) (by decide), r2 4 (by omega)])
      have k223 : ∀ k, k < 73 → h1 223 k = g 223 k := fun k hk => by rw [v4 k (by omega), hGc 223 (by decide) (by decide), r2 223 (by omega)]
      obtain ⟨R, hR⟩ : ∃ R, R = zup (zup (zup (zup h1 223 (1 + a) (nI (ha - m))) 223 (1 + b) (nI (hb + m))) 223 (5 + a) (g 38 a + v)) 223 (5 + b) (g 38 b - v) := ⟨_, rfl⟩
      have RC : f193 K (nI a) (nI b) (nI m) v G = some (nI (hb + m), R) := by
        rw [R1 G (by rw [hGc 222 (by decide) (by decide), r2 222 (by omega), b2]) (fun k hk => by rw [hGc 223 (by decide) (by decide), r2 223 (by omega)]), if_neg q1, if_pos q2, if_pos q3, v1, zbd_s]
        unfold ztrD ztrC ztrB ztrA
        have t1 : h1 223 (1 + a) = nI ha := by rw [k223 _ (by omega), x1]
        have t2 : h1 223 (1 + b) = nI hb := by rw [k223 _ (by omega), y1]
        have t3 : h1 223 (5 + a) = g 38 a := by rw [k223 _ (by omega), x2]
        have t4 : h1 223 (5 + b) = g 38 b := by rw [k223 _ (by omega), y2]
        have u1 : ∀ X : Int32, (zup h1 223 (1 + a) X) 223 (1 + b) = nI hb := fun X => by rw [zup_k (by omega), t2]
        have u2 : ∀ X Y : Int32, (zup (zup h1 223 (1 + a) X) 223 (1 + b) Y) 223 (5 + a) = g 38 a := fun X Y => by rw [zup_k (by omega), zup_k (by omega), t3]
        have u3 : ∀ X Y Z : Int32, (zup (zup (zup h1 223 (1 + a) X) 223 (1 + b) Y) 223 (5 + a) Z) 223 (5 + b) = g 38 b := fun X Y Z => by rw [zup_k (by omega), zup_k (by omega), zup_k (by omega), t4]
        have u4 : ∀ X Y Z V : Int32, (zup (zup (zup (zup h1 223 (1 + a) X) 223 (1 + b) Y) 223 (5 + a) Z) 223 (5 + b) V) 223 (1 + b) = Y := fun X Y Z V => by rw [zup_k (by omega), zup_k (by omega), zup_s]
        rw [u4, u3, u2, u1, t1, eA, nI_add, hR]
      have hRc : ∀ c, c ≠ 223 → R c = h1 c := fun c d => by rw [hR, zup_c d, zup_c d, zup_c d, zup_c d]
      have hR2 : ∀ k, R 223 k = if k = 5 + b then g 38 b - v else if k = 5 + a then g 38 a + v else if k = 1 + b then nI (hb + m) else if k = 1 + a then nI (ha - m) else h1 223 k := fun k => by rw [hR, zup_e, zup_e, zup_e, zup_e]
      have hR3 : ∀ c, c ≠ 36 → c ≠ 38 → 33 < c → c < 47 → R c = g c := fun c d1 d2 d3 d4 => by rw [hRc c (by omega), v2 c (by omega) (by omega), hGc c d1 d2, r2 c (by omega)]
      have hR36 : ∀ k, R 36 k = if k = b then nI (hb + m) else if k = a then nI (ha - m) else g 36 k := fun k => by rw [hRc 36 (by decide), v2 36 (by decide) (by decide), hG, zup_c (by decide), zup_c (by decide), zup_e, zup_e, r2 36 (by omega)]
      have hR38 : ∀ k, R 38 k = if k = a then g 38 a + v else if k = b then g 38 b - v else g 38 k := fun k => by rw [hRc 38 (by decide), v2 38 (by decide) (by decide), hG, zup_e, zup_e, zup_c (by decide), zup_c (by decide), r2 38 (by omega)]
      refine ⟨nI (hb + m), G, R, GC, RC, zstep_fr I r2 (fun c hc => hGc c (by omega) (by omega)) v2 v3 v5 hRc (fun k hk => ?_) ?_⟩
      · rw [hR2, if_neg (by omega), if_neg (by omega), if_neg (by omega), if_neg (by omega)]
      · refine ⟨?_, ?_, fun i hi => ?_, fun i hi => ?_, fun i hi => ?_, fun i hi hp => ?_⟩
        · rw [hR3 34 (by decide) (by decide) (by decide) (by decide)]; exact s1
        · rw [hR3 34 (by decide) (by decide) (by decide) (by decide), hR2, if_neg (by omega), if_neg (by omega), if_neg (by omega), if_neg (by omega), k223 0 (by omega)]; exact s2
        · obtain ⟨z1, z2, z3, z4, hh, z5, z6⟩ := s3 i hi
          rw [hR3 (34 + 6) (by decide) (by decide) (by decide) (by decide), hR3 (34 + 8) (by decide) (by decide) (by decide) (by decide)]
          show R 36 i = _ ∧ R 38 i = _ ∧ _ ∧ _ ∧ ∃ h : Nat, h ≤ 60 ∧ R 36 i = nI h
          rw [hR36, hR38, hR2 (0 + 1 + i), hR2 (0 + 5 + i), hR2 (0 + 9 + i), hR2 (0 + 13 + i), k223 (0 + 1 + i) (by omega), k223 (0 + 5 + i) (by omega), k223 (0 + 9 + i) (by omega), k223 (0 + 13 + i) (by omega)]
          rw [if_neg (show ¬ 0 + 9 + i = 5 + b by omega), if_neg (show ¬ 0 + 9 + i = 5 + a by omega), if_neg (show ¬ 0 + 9 + i = 1 + b by omega), if_neg (show ¬ 0 + 9 + i = 1 + a by omega), if_neg (show ¬ 0 + 13 + i = 5 + b by omega), if_neg (show ¬ 0 + 13 + i = 5 + a by omega), if_neg (show ¬ 0 + 13 + i = 1 + b by omega), if_neg (show ¬ 0 + 13 + i = 1 + a by omega), if_neg (show ¬ 0 + 5 + i = 1 + b by omega), if_neg (show ¬ 0 + 5 + i = 1 + a by omega), if_neg (show ¬ 0 + 1 + i = 5 + b by omega), if_neg (show ¬ 0 + 1 + i = 5 + a by omega)]
          refine ⟨?_, ?_, z3, z4, ?_⟩
          · by_cases t1 : i = b
            · rw [if_pos t1, if_pos (by omega)]
            · rw [if_neg t1, if_neg (show ¬ 0 + 1 + i = 1 + b by omega)]
              by_cases t2 : i = a
              · rw [if_pos t2, if_pos (by omega)]
              · rw [if_neg t2, if_neg (by omega)]
                exact z1
          · by_cases t1 : i = a
            · rw [if_pos t1, if_neg (show ¬ 0 + 5 + i = 5 + b by omega), if_pos (by omega)]
            · rw [if_neg t1]
              by_cases t2 : i = b
              · rw [if_pos t2, if_pos (by omega)]
              · rw [if_neg t2, if_neg (by omega), if_neg (by omega)]
                exact z2
          · by_cases t1 : i = b
            · rw [if_pos t1]
              exact ⟨_, hm2, rfl⟩
            · rw [if_neg t1]
              by_cases t2 : i = a
              · rw [if_pos t2]
                exact ⟨ha - m, by omega, rfl⟩
              · rw [if_neg t2]
                exact ⟨hh, z5, z6⟩
        · rw [hR3 (34 + 10) (by decide) (by decide) (by decide) (by decide), hR2, if_neg (by omega), if_neg (by omega), if_neg (by omega), if_neg (by omega), k223 _ (by omega)]
          exact s4 i hi
        · rw [hR3 (34 + 12) (by decide) (by decide) (by decide) (by decide), hR2, if_neg (by omega), if_neg (by omega), if_neg (by omega), if_neg (by omega), k223 _ (by omega)]
          exact s5 i hi
        · have hp2 : ¬ nI i < g 4 1 := by
            rw [hRc 4 (by decide), v2 4 (by decide) (by decide), hGc 4 (by decide) (by decide), r2 4 (by omega)] at hp
            exact hp
          have hip : ¬ i < p := fun q => hp2 (by rw [b1]; exact (nI_ltI (by omega) (by omega)).mpr q)
          obtain ⟨z1, z2, z3, z4⟩ := s6 i hi hp2
          rw [hR3 (34 + 10) (by decide) (by decide) (by decide) (by decide), hR3 (34 + 12) (by decide) (by decide) (by decide) (by decide)]
          refine ⟨?_, ?_, z3, z4⟩
          · show R 36 i = 0
            rw [hR36, if_neg (by omega), if_neg (by omega)]
            exact z1
          · show R 38 i = 0
            rw [hR38, if_neg (by omega), if_neg (by omega)]
            exact z2
    · exact ⟨-5, g, g, by rw [C1, if_neg q1, if_pos q2, if_neg q3], by rw [R1 g b2 (fun k _ => rfl), if_neg q1, if_pos q2, if_neg q3], I⟩
  · exact ⟨-4, g, g, by rw [C1, if_neg q1, if_neg q2], by rw [R1 g b2 (fun k _ => rfl), if_neg q1, if_neg q2], I⟩
