-- ===== word, one, count =====
theorem zp_word {K : Nat} (hK : 12 ≤ K) (n : Nat) (x y : Int32) : zPair (zInv n) (zInv (n + 1)) (f47 K x y) (f166 K x y) := by
  intro g h
  have I := zInv_mono n g h
  obtain ⟨w, p, c, r, l, b0, ⟨b1, b2, -⟩, ⟨c1, c2, -⟩, d1, -⟩ := I.2.1
  obtain ⟨s1, s2, s3, s4, s5, s6⟩ := I.2.2.1
  by_cases hw : zwi x 0 (g 4 0 - 1) = 0
  · refine ⟨-2, g, g, ?_, ?_, I⟩
    · unfold f47
      rw [f48_eq, zbd_s, if_neg (fun q => q hw)]
    · unfold f166
      rw [f167_eq, c1, ← b1, zbd_s, if_neg (fun q => q hw)]
  have hw2 := hw
  rw [b1] at hw2
  obtain ⟨a, a1, rfl⟩ := zwi_cnt (by omega) hw2
  have hm : f166 K (nI a) y g = f166_16 K (K - p) (nI a) y (zfo (fun i => g 223 (17 + 10 * i + a)) p 0 0) (nI p) g := by
    unfold f166
    rw [f167_eq, c1, ← b1, zbd_s, if_pos hw, show (f166_16 K K (nI a) y 0 0 g) = f166_16 K ((K - p) + p) (nI a) y 0 (nI 0) g by rw [show K - p + p = K by omega]; rfl, f166_lp (by omega) c2 (by omega) p 0 (K - p) 0 (by omega)]
  obtain ⟨q, hq⟩ : ∃ q, K - p = q + 1 := ⟨K - p - 1, by omega⟩
  rw [hq] at hm
  rw [f166_16, c2, if_pos (Int32.le_refl _)] at hm
  have hc : ∀ X, X = f47 K (nI a) y g → X = (if y = 0 then zbd (f49 K 4 (nI a) (g 34 0) g) fun r126 g125 => some (r126, g125) else if y = 1 then zbd (f21 K 7 (nI a) g) fun r130 g129 => some (r130, g129) else if y = 2 then zbd (f21 K 5 (nI a) g) fun r134 g133 => some (r134, g133) else if y = 3 then zbd (f50 K 34 (nI a) g) fun r138 g137 => some (r138, g137) else (some ((-3), g))) := by
    intro X hX
    rw [hX]
    unfold f47
    rw [f48_eq, zbd_s, if_pos hw]
  have hc := hc _ rfl
  by_cases y0 : y = 0
  · obtain ⟨v, v1, v2⟩ := zkind (K := K) (x := g 34 0) (by omega) I (by rw [b1]; exact (nI_ltI (by omega) (by omega)).mpr a1) (by omega)
    refine ⟨v, g, g, ?_, ?_, I⟩
    · rw [hc, if_pos y0, v1, zbd_s]
    · rw [hm, if_neg (fun q => q y0), if_pos (by decide), show (0 : Int32).toNatClampNeg = 0 from rfl, ← s2, v2, zbd_s]
  by_cases y1 : y = 1
  · refine ⟨g 8 a, g, g, ?_, ?_, I⟩
    · rw [hc, if_neg y0, if_pos y1, f21_eq (by exact (show a < 10 by omega)) (by decide), zbd_s]
    · rw [hm, if_pos y0, if_neg (fun q => q y1), if_pos (zin_i (by omega) (by decide)), nI_clamp (by omega), (d1 a a1).2.1]
  by_cases y2 : y = 2
  · refine ⟨g 6 a, g, g, ?_, ?_, I⟩
    · rw [hc, if_neg y0, if_neg y1, if_pos y2, f21_eq (by exact (show a < 10 by omega)) (by decide), zbd_s]
    · rw [hm, if_pos y0, if_pos y1, if_neg (fun q => q y2), if_pos (zin_i (by omega) (by decide)), nI_clamp (by omega), (d1 a a1).1]
  by_cases y3 : y = 3
  · have e : zfo (fun i => g (34 + 10) (i * 10 + a)) 4 0 0 = zfo (fun i => g 223 (17 + 10 * i + a)) p 0 0 := by
      rw [zfo_cut (p := p) (by omega) (fun j j1 j2 => ?_)]
      · refine zfo_congr fun j _ hj => ?_
        show g (34 + 10) (j * 10 + a) = g 223 (17 + 10 * j + a)
        rw [(s4 (j * 10 + a) (by omega)).1, show 0 + 17 + (j * 10 + a) = 17 + 10 * j + a by omega]
      · have := (s6 j j2 (by rw [b2]; exact fun q => absurd ((nI_ltI (by omega) (by omega)).mp q) (by omega))).2.2.1 a (by omega)
        rw [Nat.mul_comm] at this
        exact this
    refine ⟨zfo (fun i => g 223 (17 + 10 * i + a)) p 0 0, g, g, ?_, ?_, I⟩
    · rw [hc, if_neg y0, if_neg y1, if_neg y2, if_pos y3]
      unfold f50
      rw [show (0 : Int32) = nI 0 from rfl, f50_lp (by decide) (by omega) 4 0 K _ (by omega) (by omega), zbd_s]
      exact congrArg (fun q => some (q, g)) e
    · rw [hm, if_pos y0, if_pos y1, if_pos y2, if_neg (fun q => q y3)]
  · refine ⟨-3, g, g, ?_, ?_, I⟩
    · rw [hc, if_neg y0, if_neg y1, if_neg y2, if_neg y3]
    · rw [hm, if_pos y0, if_pos y1, if_pos y2, if_pos y3]
theorem zp_one {K : Nat} (hK : 12 ≤ K) (n : Nat) (x y : Int32) : zPair (zInv n) (zInv (n + 1)) (f52 K x y) (f169 K x y) := by
  intro g h
  have I := zInv_mono n g h
  obtain ⟨w, p, c, r, l, b0, ⟨b1, b2, -⟩, ⟨c1, c2, -⟩, d1, d2, -⟩ := I.2.1
  obtain ⟨s1, s2, s3, s4, s5, s6⟩ := I.2.2.1
  unfold f52 f169
  by_cases hw : zwi x 0 (nI p - 1) = 0
  · refine ⟨-2, g, g, ?_, ?_, I⟩
    · rw [f53_eq, b2, zbd_s, if_neg (fun q => q hw)]
    · rw [f170_eq, c2, zbd_s, if_neg (fun q => q hw)]
  obtain ⟨a, a1, rfl⟩ := zwi_cnt (by omega) hw
  obtain ⟨t1, t2, t3, t4, -⟩ := s3 a (by omega)
  obtain ⟨u1, u2, -⟩ := d2 a a1
  by_cases y0 : y = 0
  · refine ⟨g 10 a, g, g, ?_, ?_, I⟩
    · unfold f54
      rw [f53_eq, b2, zbd_s, if_pos hw, if_pos y0, f21_eq (by exact (show a < 4 by omega)) (by decide), zbd_s, zbd_s]
    · rw [f170_eq, c2, zbd_s, if_pos hw, if_pos y0, if_pos (zin_i (by omega) (by decide)), nI_clamp (by omega), u1]
  by_cases y1 : y = 1
  · refine ⟨g 36 a, g, g, ?_, ?_, I⟩
    · rw [f53_eq, b2, zbd_s, if_pos hw, if_neg y0, if_pos y1, f21_eq (by exact (show a < 4 by omega)) (by decide), zbd_s]
    · rw [f170_eq, c2, zbd_s, if_pos hw, if_neg y0, if_pos y1, show (1 : Int32) = nI 1 from rfl, nI_add, if_pos (zin_i (by omega) (by decide)), nI_clamp (by omega), t1]
  by_cases y2 : y = 2
  · refine ⟨g 38 a, g, g, ?_, ?_, I⟩
    · rw [f53_eq, b2, zbd_s, if_pos hw, if_neg y0, if_neg y1, if_pos y2, f21_eq (by exact (show a < 4 by omega)) (by decide), zbd_s]
    · rw [f170_eq, c2, zbd_s, if_pos hw, if_neg y0, if_neg y1, if_pos y2, show (5 : Int32) = nI 5 from rfl, nI_add, if_pos (zin_i (by omega) (by decide)), nI_clamp (by omega), t2]
  by_cases y3 : y = 3
  · refine ⟨g 40 a, g, g, ?_, ?_, I⟩
    · rw [f53_eq, b2, zbd_s, if_pos hw, if_neg y0, if_neg y1, if_neg y2, if_pos y3, f21_eq (by exact (show a < 4 by omega)) (by decide), zbd_s]
    · rw [f170_eq, c2, zbd_s, if_pos hw, if_neg y0, if_neg y1, if_neg y2, if_pos y3, show (9 : Int32) = nI 9 from rfl, nI_add, if_pos (zin_i (by omega) (by decide)), nI_clamp (by omega), t3]
  by_cases y4 : y = 4
  · refine ⟨g 42 a, g, g, ?_, ?_, I⟩
    · rw [f53_eq, b2, zbd_s, if_pos hw, if_neg y0, if_neg y1, if_neg y2, if_neg y3, if_pos y4, f21_eq (by exact (show a < 4 by omega)) (by decide), zbd_s]
    · rw [f170_eq, c2, zbd_s, if_pos hw, if_neg y0, if_neg y1, if_neg y2, if_neg y3, if_pos y4, show (13 : Int32) = nI 13 from rfl, nI_add, if_pos (zin_i (by omega) (by decide)), nI_clamp (by omega), t4]
  by_cases y5 : y = 5
  · have e : zfo (fun i => g (34 + 10) (a * 10 + i)) 10 0 0 = zfo (fun i => g 223 (17 + 10 * a + i)) 10 0 0 := by
      refine zfo_congr fun j _ hj => ?_
      show g (34 + 10) (a * 10 + j) = g 223 (17 + 10 * a + j)
      rw [(s4 (a * 10 + j) (by omega)).1, show 0 + 17 + (a * 10 + j) = 17 + 10 * a + j by omega]
    refine ⟨zfo (fun i => g 223 (17 + 10 * a + i)) 10 0 0, g, g, ?_, ?_, I⟩
    · unfold f55
      rw [f53_eq, b2, zbd_s, if_pos hw, if_neg y0, if_neg y1, if_neg y2, if_neg y3, if_neg y4, if_pos y5, show (0 : Int32) = nI 0 from rfl, f55_lp (by decide) (by omega) 10 0 K _ (by omega) (by omega), zbd_s]
      exact congrArg (fun q => some (q, g)) e
    · unfold f171
      rw [f170_eq, c2, zbd_s, if_pos hw, if_neg y0, if_neg y1, if_neg y2, if_neg y3, if_neg y4, if_pos y5, show (0 : Int32) = nI 0 from rfl, f171_lp (by omega) 10 0 K _ (by omega) (by omega), zbd_s]
  by_cases y6 : y = 6
  · refine ⟨g 12 a, g, g, ?_, ?_, I⟩
    · rw [f53_eq, b2, zbd_s, if_pos hw, if_neg y0, if_neg y1, if_neg y2, if_neg y3, if_neg y4, if_neg y5, if_pos y6, f21_eq (by exact (show a < 4 by omega)) (by decide), zbd_s]
    · rw [f170_eq, c2, zbd_s, if_pos hw, if_neg y0, if_neg y1, if_neg y2, if_neg y3, if_neg y4, if_neg y5, if_pos y6, if_pos (zin_i (by omega) (by decide)), nI_clamp (by omega), u2]
  · refine ⟨-3, g, g, ?_, ?_, I⟩
    · rw [f53_eq, b2, zbd_s, if_pos hw, if_neg y0, if_neg y1, if_neg y2, if_neg y3, if_neg y4, if_neg y5, if_neg y6]
    · rw [f170_eq, c2, zbd_s, if_pos hw, if_neg y0, if_neg y1, if_neg y2, if_neg y3, if_neg y4, if_neg y5, if_neg y6]
