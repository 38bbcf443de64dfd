-- ===== say: both ends =====
theorem zlW {n m : Nat} {g0 : zS} (Wd : zWds g0 m (g0 182)) (hs : zhc (g0 182) m = 0) : ∀ j, j < m → ∃ w : Nat, w < 10 ∧ g0 182 j = nI w := fun j hj => by
  rcases Wd j hj with q | ⟨w, q1, q2, -⟩
  · exact absurd q (zhc_0.mp hs j hj)
  · exact ⟨w, q1, q2⟩
/-- the state after one said the line: H, F, V what becomes other for him, S what all said -/
theorem zsay_st {n p a m h H : Nat} {Fn Wo : Int32} {S : Nat → Int32} {g R : zS} (S0 : zIst n 34 0 g) (hp : g 4 1 = nI p) (hp4 : p ≤ 4) (hap : a < p) (hH : H ≤ 60) (hm : m ≤ 8)
    (k4 : R 4 1 = g 4 1) (k34 : R 34 0 = g 34 0) (k36 : ∀ k, R 36 k = if k = a then nI H else g 36 k) (k38 : R 38 = g 38) (k40 : ∀ k, R 40 k = if k = a then Fn else g 40 k) (k42 : ∀ k, R 42 k = if k = a then Wo else g 42 k) (k44 : ∀ k, k < 40 → R 44 k = S k) (k46 : R 46 = g 46)
    (r : ∀ k, k < 73 → R 223 k = if k = 1 + a then nI H else if k = 9 + a then Fn else if k = 13 + a then Wo else if 17 ≤ k ∧ k < 57 then S (k - 17) else g 223 k)
    (hS : ∀ k t, k < 40 → g 44 k = nI t → ∃ c, c ≤ 8 ∧ S k = nI (t + c)) (hS0 : ∀ k, k < 40 → (∀ w, w < 10 → k ≠ a * 10 + w) → S k = g 44 k) : zIst (n + 1) 34 0 R := by
  obtain ⟨s1, s2, s3, s4, s5, s6⟩ := S0
  refine ⟨by rw [k34]; exact s1, ?_, fun i hi => ?_, fun i hi => ?_, fun i hi => ?_, fun i hi hq => ?_⟩
  · rw [k34, r 0 (by omega), if_neg (by omega), if_neg (by omega), if_neg (by omega), if_neg (by omega)]
    exact s2
  · obtain ⟨z1, z2, z3, z4, hh, z5, z6⟩ := s3 i hi
    show R 36 i = _ ∧ R 38 i = _ ∧ R 40 i = _ ∧ R 42 i = _ ∧ ∃ h : Nat, h ≤ 60 ∧ R 36 i = nI h
    rw [k36, k38, k40, k42, r (0 + 1 + i) (by omega), r (0 + 5 + i) (by omega), r (0 + 9 + i) (by omega), r (0 + 13 + i) (by omega)]
    rw [if_neg (show ¬ 0 + 1 + i = 9 + a by omega), if_neg (show ¬ 0 + 1 + i = 13 + a by omega), if_neg (show ¬ (17 ≤ 0 + 1 + i ∧ 0 + 1 + i < 57) by omega), if_neg (show ¬ 0 + 5 + i = 1 + a by omega), if_neg (show ¬ 0 + 5 + i = 9 + a by omega), if_neg (show ¬ 0 + 5 + i = 13 + a by omega), if_neg (show ¬ (17 ≤ 0 + 5 + i ∧ 0 + 5 + i < 57) by omega), if_neg (show ¬ 0 + 9 + i = 1 + a by omega), if_neg (show ¬ 0 + 9 + i = 13 + a by omega), if_neg (show ¬ (17 ≤ 0 + 9 + i ∧ 0 + 9 + i < 57) by omega), if_neg (show ¬ 0 + 13 + i = 1 + a by omega), if_neg (show ¬ 0 + 13 + i = 9 + a by omega), if_neg (show ¬ (17 ≤ 0 + 13 + i ∧ 0 + 13 + i < 57) by omega)]
    by_cases q : i = a
    · rw [if_pos q, if_pos q, if_pos q, if_pos (show 0 + 1 + i = 1 + a by omega), if_pos (show 0 + 9 + i = 9 + a by omega), if_pos (show 0 + 13 + i = 13 + a by omega)]
      exact ⟨rfl, z2, rfl, rfl, H, hH, rfl⟩
    · rw [if_neg q, if_neg q, if_neg q, if_neg (show ¬ 0 + 1 + i = 1 + a by omega), if_neg (show ¬ 0 + 9 + i = 9 + a by omega), if_neg (show ¬ 0 + 13 + i = 13 + a by omega)]
      exact ⟨z1, z2, z3, z4, hh, z5, z6⟩
  · obtain ⟨z1, t, z2, z3⟩ := s4 i hi
    have z3 : g 44 i = nI t := z3
    obtain ⟨c, c1, c2⟩ := hS i t hi z3
    show R 44 i = _ ∧ ∃ t : Nat, t ≤ 8 * (n + 1) ∧ R 44 i = nI t
    rw [k44 i hi, r (0 + 17 + i) (by omega), if_neg (by omega), if_neg (by omega), if_neg (by omega), if_pos (by omega), show 0 + 17 + i - 17 = i by omega]
    exact ⟨rfl, t + c, by omega, c2⟩
  · show R 46 i = _ ∧ ∃ t : Nat, t ≤ 999 ∧ R 46 i = nI t
    rw [k46, r (0 + 57 + i) (by omega), if_neg (by omega), if_neg (by omega), if_neg (by omega), if_neg (by omega)]
    exact s5 i hi
  · rw [k4] at hq
    have hip : ¬ i < p := fun q => hq (by rw [hp]; exact (nI_ltI (by omega) (by omega)).mpr q)
    obtain ⟨z1, z2, z3, z4⟩ := s6 i hi hq
    refine ⟨?_, ?_, fun j hj => ?_, fun j hj => ?_⟩
    · show R 36 i = 0
      rw [k36, if_neg (by omega)]; exact z1
    · show R 38 i = 0
      rw [k38]; exact z2
    · show R 44 (10 * i + j) = 0
      rw [k44 _ (by omega), hS0 _ (by omega) (fun w hw => by omega)]
      exact z3 j hj
    · show R 46 _ = 0 ∧ R 46 _ = 0
      rw [k46]; exact z4 j hj
theorem zp_say {K : Nat} (hK : 600 ≤ K) (n : Nat) (x : Int32) : zPair (zInv n) (zInv (n + 1)) (f75 K x) (f187 K x) := by
  intro g I0
  have I := zInv_mono n g I0
  obtain ⟨p, r, p4, r20, b1, b2, -, -, b3⟩ := zpe I
  obtain ⟨m, m8, l1, l2, Wd, l3⟩ := zli I
  have S0 := I0.2.2.1
  have S := I.2.2.1
  have P := I.2.2.2.1
  by_cases hw : zwi x 0 (nI p - 1) = 0
  · refine ⟨-2, g, g, ?_, ?_, I⟩
    · unfold f75
      rw [f53_s zScr_0 b1, zbd_s, if_neg (fun q => q hw)]
    · unfold f187
      rw [f170_s zScr_0 b2, zbd_s, if_neg (fun q => q hw)]
  obtain ⟨a, a1, rfl⟩ := zwi_cnt (by omega) hw
  by_cases hs : 0 < m ∧ zhc (g 182) m = 0
  · obtain ⟨k1, ⟨κ, k2, k3⟩, -⟩ := b3 a a1
    have hU := zlW (n := n) Wd hs.2
    have hz : zah (g 182) (-1) m = false := zah_f.mpr (zhc_0.mp hs.2)
    obtain ⟨x1, -, -, -, h, h60, hh⟩ := S.2.2.1 a (by omega)
    have hh : g 36 a = nI h := hh
    obtain ⟨g1, r1, r2, r3⟩ := f78_sp (K := K) (by omega) P
    have T1 : zTld g g1 := ⟨fun c q1 q2 => r2 c (by omega), fun c q1 q2 => r2 c (by omega), fun k q1 q2 => by rw [r2 222 (by omega)]⟩
    have g1182 : g1 182 = g 182 := r2 182 (by omega)
    obtain ⟨g2, e1, e2, e3⟩ := f58_sp (K := K) (x := g1 34 0) (by omega) (zTld_to T1 I.2.1) (zScr_0 (g := g1)) m8 (by rw [r2 180 (by omega)]; exact l1) (by rw [g1182]; exact zWds_c T1 Wd) (show a < 4 by omega)
    rw [zPr_c T1, r2 10 (by omega), k3, r2 34 (by omega), g1182] at e1
    obtain ⟨pr, hpr⟩ : ∃ pr, pr = zPr g (nI κ) (g 34 0) m (g 182) := ⟨_, rfl⟩
    rw [← hpr] at e1
    have hpr24 : pr ≤ 24 := by rw [hpr]; exact zPr_le m8
    have e36 : g2 36 a = nI h := by rw [e3 36 (by decide) (by decide), r2 36 (by omega)]; exact hh
    have C0 : f75 K (nI a) g = (if nI pr ≤ nI h then zbd (f82 K 35 (nI a) (-nI pr) g2) fun _ g152 => zbd (f83 K 4 180 g152) fun r156 g155 => zbd (f82 K 41 (nI a) r156 g155) fun _ g158 => zbd (f84 K 34 (nI a) 180 g158) fun _ g161 => some (1, g161) else zbd (f82 K 39 (nI a) 1 g2) fun _ g164 => zbd (f14 K 35 (nI a) 0 g164) fun _ g167 => some (0, g167)) := by
      unfold f75
      rw [f53_s zScr_0 b1, zbd_s, if_pos hw, f76_eq (by omega) (zLn_180 zScr_0 m8 l1), zbd_s, if_pos hs, if_pos (by decide), r1, zbd_s, r2 34 (by omega), e1, zbd_s, f21_eq (by rw [zl36]; omega) (by rw [zl36]; decide), zbd_s, show g2 (35 + 1) a = nI h from e36]
    -- the reference, from any store that holds the class's step
    have R0 : ∀ C : zS, (∀ c, ¬ (34 ≤ c ∧ c < 47) → c ≠ 183 → c ≠ 185 → C c = g1 c) → ∃ h3, (∀ c, c ≠ 235 → c ≠ 236 → c ≠ 222 → c ≠ 223 → h3 c = C c) ∧ (∀ k, k ≠ 1 → k ≠ 29 → h3 222 k = g 222 k) ∧ (∀ k, k < 219 → h3 223 k = g 223 k) ∧ zIpa (n + 1) h3 ∧ zTr m (g 182) h3 ∧ f187 K (nI a) C = (if nI pr ≤ nI h then zbd (f190 K (zup h3 223 (1 + a) (nI h - nI pr))) fun r165 g164 => f187_119 K K (nI a) 0 (zup g164 223 (13 + a) ((zup h3 223 (1 + a) (nI h - nI pr)) 223 (13 + a) + r165)) else some (0, zup (zup h3 223 (9 + a) (h3 223 (9 + a) + 1)) 223 (1 + a) 0)) := by
      intro C hC
      have C2 : ∀ c, ¬ (34 ≤ c ∧ c < 180) → c ≠ 183 → c ≠ 185 → C c = g c := fun c q1 q2 q3 => by rw [hC c (by omega) q2 q3, r2 c (by omega)]
      obtain ⟨h1, v1, v2, v3, v4, v5⟩ := f173_sp (K := K) (by omega) (zScr_0 (g := C)) m8 (by rw [C2 222 (by omega) (by omega) (by omega)]; exact l2) (fun i hi => by rw [C2 182 (by omega) (by omega) (by omega), C2 232 (by omega) (by omega) (by omega)]; exact l3 i hi)
      rw [C2 182 (by omega) (by omega) (by omega)] at v3
      obtain ⟨h2, w1, w2, w3, w4, w5⟩ := f188_sp (K := K) (h := h1) hK P S r3 (fun c q1 q2 => by rw [v4 c (by omega) (by omega), hC c (by omega) (by omega) (by omega)]) (by rw [v4 223 (by decide) (by decide), C2 223 (by omega) (by omega) (by omega)]) (by rw [v5 1 (by decide), C2 222 (by omega) (by omega) (by omega)]) (by rw [v4 224 (by decide) (by decide), C2 224 (by omega) (by omega) (by omega)]) (by rw [v4 4 (by decide) (by decide), C2 4 (by omega) (by omega) (by omega)])
      have h2c : ∀ c, c ≠ 223 → c ≠ 222 → c ≠ 235 → h2 c = C c := fun c q1 q2 q3 => by rw [w2 c q1 q2, v4 c q3 q2]
      have h222 : ∀ k, k ≠ 1 → k ≠ 29 → h2 222 k = g 222 k := fun k q1 q2 => by rw [w3 k q1, v5 k q2, C2 222 (by omega) (by omega) (by omega)]
      have h223 : ∀ k, k < 219 → h2 223 k = g 223 k := fun k hk => by rw [w4 k hk, v4 223 (by decide) (by decide), C2 223 (by omega) (by omega) (by omega)]
      have T2 : zTld g h2 := ⟨fun c q1 q2 => by rw [h2c c (by omega) (by omega) (by omega), C2 c (by omega) (by omega) (by omega)], fun c q1 q2 => by rw [h2c c (by omega) (by omega) (by omega), C2 c (by omega) (by omega) (by omega)], fun k q1 q2 => h222 k (by omega) (by omega)⟩
      have Tr2 : zTr m (g 182) h2 := ⟨m8, by rw [w3 29 (by decide)]; exact v3.2.1, fun j hj => by rw [w2 235 (by decide) (by decide)]; exact v3.2.2 j hj⟩
      obtain ⟨h3, u1, u2, u3⟩ := f174_sp (K := K) (x := g 34 0) (by omega) (zTld_to T2 I.2.1) (zScr_0 (g := h2)) (zWds_c T2 Wd) Tr2 k2
      rw [zPr_c T2, ← hpr] at u1
      have hwk : h2 223 (0 : Int32).toNatClampNeg = g 34 0 := by
        show h2 223 0 = g 34 0
        rw [h223 0 (by omega)]
        exact S.2.1.symm
      have hx1 : h3 223 (1 + a) = nI h := by
        rw [u3 223 (by decide), h223 _ (by omega), ← hh]
        exact (x1.trans (by rw [Nat.zero_add])).symm
      refine ⟨h3, fun c q1 q2 q3 q4 => by rw [u3 c q2, h2c c q4 q3 q1], fun k q1 q2 => by rw [u3 222 (by decide), h222 k q1 q2], fun k hk => by rw [u3 223 (by decide), h223 k hk], zIpa_fr w5 (fun c q1 q2 => u3 c (by omega)) (by rw [u3 222 (by decide)]) (fun i _ => by rw [u3 223 (by decide)]) (u3 224 (by decide)) (by rw [u3 4 (by decide)]), ⟨m8, by rw [u3 222 (by decide)]; exact Tr2.2.1, fun j hj => by rw [u3 235 (by decide)]; exact Tr2.2.2 j hj⟩, ?_⟩
      have i1 : (1 : Int32) + nI a = nI (1 + a) := nI_add 1 a
      have i9 : (9 : Int32) + nI a = nI (9 + a) := nI_add 9 a
      have i13 : (13 : Int32) + nI a = nI (13 + a) := nI_add 13 a
      have j1 : zin (nI (1 + a)) 803 := zin_i (by omega) (by decide)
      have j9 : zin (nI (9 + a)) 803 := zin_i (by omega) (by decide)
      have j13 : zin (nI (13 + a)) 803 := zin_i (by omega) (by decide)
      have c1 : (nI (1 + a)).toNatClampNeg = 1 + a := nI_clamp (by omega)
      have c9 : (nI (9 + a)).toNatClampNeg = 9 + a := nI_clamp (by omega)
      have c13 : (nI (13 + a)).toNatClampNeg = 13 + a := nI_clamp (by omega)
      unfold f187
      rw [f170_eq, C2 222 (by omega) (by omega) (by omega), b2, zbd_s, if_pos hw, v1, zbd_s, v3.2.1, if_neg (nI_ne0 hs.1 (by omega)), f186_eq (by omega) v3, zbd_s, hz, if_pos (by decide), w1, zbd_s, if_pos (zin_i (show a < 4 by omega) (by decide)), if_pos (show zin (0 : Int32) 803 by decide), nI_clamp (show a < 2 ^ 31 by omega), hwk, h2c 230 (by decide) (by decide) (by decide), C2 230 (by omega) (by omega) (by omega), k1, k3, u1, zbd_s]
      simp only [i1, i9, i13, if_pos j1, if_pos j9, if_pos j13, c1, c9, c13]
      rw [hx1]
    by_cases hle : pr ≤ h
    · -- he pays
      obtain ⟨G3, hG3⟩ : ∃ G, G = zup g2 36 a (nI (h - pr)) := ⟨_, rfl⟩
      have T3 : zTld g G3 := ⟨fun c q1 q2 => by rw [hG3, zup_c (by omega), e3 c (by omega) (by omega), r2 c (by omega)], fun c q1 q2 => by rw [hG3, zup_c (by omega), e3 c (by omega) (by omega), r2 c (by omega)], fun k q1 q2 => by rw [hG3, zup_c (by omega), e3 222 (by omega) (by omega), r2 222 (by omega)]⟩
      have L3 : zLn 180 m (g 182) G3 := ⟨by decide +kernel, m8, by rw [hG3, zup_c (by omega), e3 180 (by omega) (by omega), r2 180 (by omega)]; exact l1, fun i _ => by rw [hG3, zup_c (by omega), e3 _ (by omega) (by omega), r2 _ (by omega)]⟩
      obtain ⟨G4, hG4⟩ : ∃ G, G = zup G3 42 a (g 42 a + zwo g (g 182) m) := ⟨_, rfl⟩
      have L4 : zLn 180 m (g 182) G4 := ⟨L3.1, m8, by rw [hG4, zup_c (by omega)]; exact L3.2.2.1, fun i hi => by rw [hG4, zup_c (by omega)]; exact L3.2.2.2 i hi⟩
      obtain ⟨C, y1, y2, y3⟩ := f84_lp (K := K) (a := a) (by omega) hU m 0 K G4 (by omega) (by omega) L4
      have G42 : G3 42 a = g 42 a := by rw [hG3, zup_c (by decide), e3 42 (by decide) (by decide), r2 42 (by omega)]
      have CC : f75 K (nI a) g = some (1, C) := by
        rw [C0, if_pos (nI_le hle (by omega)), f82_eq (by rw [zl36]; omega) (by rw [zl36]; decide), zbd_s, show g2 (35 + 1) a = nI h from e36, zsubneg, pk_sub hle, show zup g2 (35 + 1) a (nI (h - pr)) = G3 from hG3.symm, f83_sp (by omega) (zScr_0 (g := G3)) L3 (zWds_c T3 Wd), zbd_s, zwo_c T3, f82_eq (by exact (show a < 4 by omega)) (by decide), zbd_s, show G3 (41 + 1) a = g 42 a from G42, show zup G3 (41 + 1) a (g 42 a + zwo g (g 182) m) = G4 from hG4.symm]
        unfold f84
        rw [show f84_2 K K 34 (nI a) 180 0 G4 = some ((), C) from y1, zbd_s]
      have c44 : C 44 = zsf a (g 182) m 0 (g 44) := by rw [y3, hG4, zup_c (by decide), hG3, zup_c (by decide), e3 44 (by decide) (by decide), r2 44 (by omega)]
      have cc : ∀ c, c ≠ 44 → c ≠ 42 → c ≠ 36 → c ≠ 183 → c ≠ 185 → C c = g1 c := fun c q1 q2 q3 q4 q5 => by rw [y2 c q1, hG4, zup_c q2, hG3, zup_c q3, e3 c q4 q5]
      have c36 : ∀ k, C 36 k = if k = a then nI (h - pr) else g 36 k := fun k => by rw [y2 36 (by decide), hG4, zup_c (by decide), hG3, zup_e, e3 36 (by decide) (by decide), r2 36 (by omega)]
      have c42 : ∀ k, C 42 k = if k = a then g 42 a + zwo g (g 182) m else g 42 k := fun k => by rw [y2 42 (by decide), hG4, zup_e, hG3, zup_c (by decide), e3 42 (by decide) (by decide), r2 42 (by omega)]
      obtain ⟨h3, t1, t2, t3, t4, t5, t6⟩ := R0 C (fun c q1 q2 q3 => cc c (by omega) (by omega) (by omega) q2 q3)
      obtain ⟨H4, hH4⟩ : ∃ H, H = zup h3 223 (1 + a) (nI (h - pr)) := ⟨_, rfl⟩
      have T4 : zTld g H4 := ⟨fun c q1 q2 => by rw [hH4, zup_c (by omega), t1 c (by omega) (by omega) (by omega) (by omega), cc c (by omega) (by omega) (by omega) (by omega) (by omega), r2 c (by omega)], fun c q1 q2 => by rw [hH4, zup_c (by omega), t1 c (by omega) (by omega) (by omega) (by omega), cc c (by omega) (by omega) (by omega) (by omega) (by omega), r2 c (by omega)], fun k q1 q2 => by rw [hH4, zup_c (by omega), t2 k (by omega) (by omega)]⟩
      have Tr4 : zTr m (g 182) H4 := ⟨m8, by rw [hH4, zup_c (by decide)]; exact t5.2.1, fun j hj => by rw [hH4, zup_c (by decide)]; exact t5.2.2 j hj⟩
      obtain ⟨H5, hH5⟩ : ∃ H, H = zup H4 223 (13 + a) (H4 223 (13 + a) + zwo g (g 182) m) := ⟨_, rfl⟩
      obtain ⟨R, z1, z2, z3, z4⟩ := f187_lp (K := K) (a := a) (by omega) m8 hU m 0 K H5 (by omega) (by omega) (by rw [hH5, zup_c (by decide)]; exact Tr4.2.1) (fun j hj => by rw [hH5, zup_c (by decide)]; exact Tr4.2.2 j hj)
      have RR : f187 K (nI a) C = some (1, R) := by
        rw [t6, if_pos (nI_le hle (by omega)), pk_sub hle, ← hH4, f190_sp (by omega) (zTld_to T4 I.2.1) (zScr_0 (g := H4)) Tr4 (zWds_c T4 Wd), zbd_s, zwo_c T4, ← hH5]
        exact z1
      have h13 : H4 223 (13 + a) = g 42 a := by
        rw [hH4, zup_k (by omega), t3 _ (by omega)]
        exact ((S.2.2.1 a (by omega)).2.2.2.1.trans (by rw [Nat.zero_add])).symm
      have H5k : ∀ k, k < 219 → H5 223 k = if k = 13 + a then g 42 a + zwo g (g 182) m else if k = 1 + a then nI (h - pr) else g 223 k := fun k hk => by
        rw [hH5, zup_e, h13, hH4, zup_e, t3 k hk]
      have F : ∀ c, c ≠ 223 → c ≠ 235 → c ≠ 236 → c ≠ 222 → R c = C c := fun c q1 q2 q3 q4 => by rw [z2 c q1, hH5, zup_c q1, hH4, zup_c q1, t1 c q2 q3 q4 q1]
      have F2 : ∀ c, ¬ (34 ≤ c ∧ c < 180) → c ≠ 223 → c ≠ 235 → c ≠ 236 → c ≠ 222 → c ≠ 183 → c ≠ 185 → R c = g c := fun c q0 q1 q2 q3 q4 q5 q6 => by rw [F c q1 q2 q3 q4, cc c (by omega) (by omega) (by omega) q5 q6, r2 c (by omega)]
      have F222 : ∀ k, k ≠ 1 → k ≠ 29 → R 222 k = g 222 k := fun k q1 q2 => by rw [z2 222 (by decide), hH5, zup_c (by decide), hH4, zup_c (by decide), t2 k q1 q2]
      have Rlo : ∀ k, k < 17 → R 223 k = H5 223 k := z4
      have Rsf : ∀ k, k < 40 → R 223 (17 + k) = zsf a (g 182) m 0 (g 44) k := fun k hk => by
        rw [z3 k]
        refine zsf_c (fun j hj => ?_) k hk
        show H5 223 (17 + j) = g 44 j
        rw [H5k _ (by omega), if_neg (by omega), if_neg (by omega)]
        exact ((S.2.2.2.1 j hj).1.trans (by rw [Nat.zero_add])).symm
      have Rhi : ∀ k, 57 ≤ k → R 223 k = H5 223 k := fun k hk => by
        rw [show k = 17 + (k - 17) by omega, z3 (k - 17)]
        exact zsf_o (fun w hw => by omega) (fun j _ hj => hU j (by omega))
      refine ⟨1, C, R, CC, RR, zInv_st I (fun c k u0 u1 u2 u3 u4 => ?_) (zsay_st (n := n) (m := m) (h := h) (S := zsf a (g 182) m 0 (g 44)) (Fn := g 40 a) (H := h - pr) (Wo := g 42 a + zwo g (g 182) m) S0 b1 p4 a1 (by omega) m8 ?_ ?_ ?_ ?_ ?_ ?_ ?_ ?_ ?_ ?_ ?_) ?_⟩
      · unfold zKeep at u0
        by_cases q : c = 222
        · subst q
          exact F222 k (by omega) (by omega)
        · rw [F2 c u1 u2 (by omega) (by omega) q (by omega) (by omega)]
      · rw [F2 4 (by omega) (by omega) (by omega) (by omega) (by omega) (by omega) (by omega)]
      · rw [F 34 (by decide) (by decide) (by decide) (by decide), cc 34 (by decide) (by decide) (by decide) (by decide) (by decide), r2 34 (by omega)]
      · intro k
        rw [F 36 (by decide) (by decide) (by decide) (by decide), c36]
      · rw [F 38 (by decide) (by decide) (by decide) (by decide), cc 38 (by decide) (by decide) (by decide) (by decide) (by decide), r2 38 (by omega)]
      · intro k
        rw [F 40 (by decide) (by decide) (by decide) (by decide), cc 40 (by decide) (by decide) (by decide) (by decide) (by decide), r2 40 (by omega)]
        by_cases q : k = a
        · rw [if_pos q, q]
        · rw [if_neg q]
      · intro k
        rw [F 42 (by decide) (by decide) (by decide) (by decide), c42]
      · intro k hk
        rw [F 44 (by decide) (by decide) (by decide) (by decide), c44]
      · rw [F 46 (by decide) (by decide) (by decide) (by decide), cc 46 (by decide) (by decide) (by decide) (by decide) (by decide), r2 46 (by omega)]
      · intro k hk
        by_cases q1 : k = 1 + a
        · rw [if_pos q1, Rlo k (by omega), H5k k (by omega), if_neg (by omega), if_pos q1]
        rw [if_neg q1]
        by_cases q2 : k = 9 + a
        · rw [if_pos q2, Rlo k (by omega), H5k k (by omega), if_neg (by omega), if_neg q1, q2]
          exact ((S.2.2.1 a (by omega)).2.2.1.trans (by rw [Nat.zero_add])).symm
        rw [if_neg q2]
        by_cases q3 : k = 13 + a
        · rw [if_pos q3, Rlo k (by omega), H5k k (by omega), if_pos q3]
        rw [if_neg q3]
        by_cases q4 : 17 ≤ k ∧ k < 57
        · have := Rsf (k - 17) (by omega)
          rw [show 17 + (k - 17) = k by omega] at this
          rw [if_pos q4, this]
        · rw [if_neg q4]
          by_cases q5 : k < 17
          · rw [Rlo k q5, H5k k (by omega), if_neg q3, if_neg q1]
          · rw [Rhi k (by omega), H5k k (by omega), if_neg q3, if_neg q1]
      · intro k t hk ht
        obtain ⟨c, c1, c2⟩ := zsf_b (a := a) (U := g 182) (d := m) (i := 0) (F := g 44) ht
        exact ⟨c, by omega, c2⟩
      · intro k hk hw2
        exact zsf_o hw2 (fun j _ hj => hU j (by omega))
      · refine zIpa_fr t4 (fun c q1 q2 => by rw [F c (by omega) (by omega) (by omega) (by omega), t1 c (by omega) (by omega) (by omega) (by omega)]) ?_ (fun k hk => ?_) (by rw [F 224 (by decide) (by decide) (by decide) (by decide), t1 224 (by decide) (by decide) (by decide) (by decide)]) (by rw [F 4 (by decide) (by decide) (by decide) (by decide), t1 4 (by decide) (by decide) (by decide) (by decide)])
        · rw [z2 222 (by decide), hH5, zup_c (by decide), hH4, zup_c (by decide)]
        · rw [Rhi k (by omega), hH5, zup_k (by omega), hH4, zup_k (by omega)]
    · -- he is fined
      obtain ⟨C, hC⟩ : ∃ C, C = zup (zup g2 40 a (g 40 a + 1)) 36 a 0 := ⟨_, rfl⟩
      have g240 : g2 40 a = g 40 a := by rw [e3 40 (by decide) (by decide), r2 40 (by omega)]
      have CC : f75 K (nI a) g = some (0, C) := by
        rw [C0, if_neg (nI_ge (by omega) (by omega)), f82_eq (by exact (show a < 4 by omega)) (by decide), zbd_s, f14_eq (by exact (show a < 4 by omega)) (by decide), zbd_s, show g2 (39 + 1) a = g 40 a from g240, hC]
      have cc : ∀ c, c ≠ 40 → c ≠ 36 → c ≠ 183 → c ≠ 185 → C c = g1 c := fun c q2 q3 q4 q5 => by rw [hC, zup_c q3, zup_c q2, e3 c q4 q5]
      have c36 : ∀ k, C 36 k = if k = a then nI 0 else g 36 k := fun k => by
        rw [hC, zup_e, zup_c (by decide), e3 36 (by decide) (by decide), r2 36 (by omega)]; rfl
      have c40 : ∀ k, C 40 k = if k = a then g 40 a + 1 else g 40 k := fun k => by rw [hC, zup_c (by decide), zup_e, e3 40 (by decide) (by decide), r2 40 (by omega)]
      obtain ⟨h3, t1, t2, t3, t4, t5, t6⟩ := R0 C (fun c q1 q2 q3 => cc c (by omega) (by omega) q2 q3)
      obtain ⟨R, hR⟩ : ∃ R, R = zup (zup h3 223 (9 + a) (h3 223 (9 + a) + 1)) 223 (1 + a) 0 := ⟨_, rfl⟩
      have RR : f187 K (nI a) C = some (0, R) := by rw [t6, if_neg (nI_ge (by omega) (by omega)), hR]
      have h9 : h3 223 (9 + a) = g 40 a := by
        rw [t3 _ (by omega)]
        exact ((S.2.2.1 a (by omega)).2.2.1.trans (by rw [Nat.zero_add])).symm
      have Rk : ∀ k, k < 219 → R 223 k = if k = 1 + a then nI 0 else if k = 9 + a then g 40 a + 1 else g 223 k := fun k hk => by
        rw [hR, zup_e, zup_e, h9, t3 k hk]; rfl
      have F : ∀ c, c ≠ 223 → c ≠ 235 → c ≠ 236 → c ≠ 222 → R c = C c := fun c q1 q2 q3 q4 => by rw [hR, zup_c q1, zup_c q1, t1 c q2 q3 q4 q1]
      have F2 : ∀ c, ¬ (34 ≤ c ∧ c < 180) → c ≠ 223 → c ≠ 235 → c ≠ 236 → c ≠ 222 → c ≠ 183 → c ≠ 185 → R c = g c := fun c q0 q1 q2 q3 q4 q5 q6 => by rw [F c q1 q2 q3 q4, cc c (by omega) (by omega) q5 q6, r2 c (by omega)]
      have F222 : ∀ k, k ≠ 1 → k ≠ 29 → R 222 k = g 222 k := fun k q1 q2 => by rw [hR, zup_c (by decide), zup_c (by decide), t2 k q1 q2]
      refine ⟨0, C, R, CC, RR, zInv_st I (fun c k u0 u1 u2 u3 u4 => ?_) (zsay_st (n := n) (m := m) (h := h) (S := g 44) (Fn := g 40 a + 1) (H := 0) (Wo := g 42 a) S0 b1 p4 a1 (by omega) m8 ?_ ?_ ?_ ?_ ?_ ?_ ?_ ?_ ?_ ?_ ?_) ?_⟩
      · unfold zKeep at u0
        by_cases q : c = 222
        · subst q
          exact F222 k (by omega) (by omega)
        · rw [F2 c u1 u2 (by omega) (by omega) q (by omega) (by omega)]
      · rw [F2 4 (by omega) (by omega) (by omega) (by omega) (by omega) (by omega) (by omega)]
      · rw [F 34 (by decide) (by decide) (by decide) (by decide), cc 34 (by decide) (by decide) (by decide) (by decide), r2 34 (by omega)]
      · intro k
        rw [F 36 (by decide) (by decide) (by decide) (by decide), c36]
      · rw [F 38 (by decide) (by decide) (by decide) (by decide), cc 38 (by decide) (by decide) (by decide) (by decide), r2 38 (by omega)]
      · intro k
        rw [F 40 (by decide) (by decide) (by decide) (by decide), c40]
      · intro k
        rw [F 42 (by decide) (by decide) (by decide) (by decide), cc 42 (by decide) (by decide) (by decide) (by decide), r2 42 (by omega)]
        by_cases q : k = a
        · rw [if_pos q, q]
        · rw [if_neg q]
      · intro k hk
        rw [F 44 (by decide) (by decide) (by decide) (by decide), cc 44 (by decide) (by decide) (by decide) (by decide), r2 44 (by omega)]
      · rw [F 46 (by decide) (by decide) (by decide) (by decide), cc 46 (by decide) (by decide) (by decide) (by decide), r2 46 (by omega)]
      · intro k hk
        rw [Rk k (by omega)]
        by_cases q1 : k = 1 + a
        · rw [if_pos q1, if_pos q1]
        rw [if_neg q1, if_neg q1]
        by_cases q2 : k = 9 + a
        · rw [if_pos q2, if_pos q2]
        rw [if_neg q2, if_neg q2]
        by_cases q3 : k = 13 + a
        · rw [if_pos q3, q3]
          exact ((S.2.2.1 a (by omega)).2.2.2.1.trans (by rw [Nat.zero_add])).symm
        rw [if_neg q3]
        by_cases q4 : 17 ≤ k ∧ k < 57
        · rw [if_pos q4]
          exact ((S.2.2.2.1 (k - 17) (by omega)).1.trans (by rw [show 0 + 17 + (k - 17) = k by omega])).symm
        · rw [if_neg q4]
      · intro k t hk ht
        exact ⟨0, by omega, by rw [ht]; rfl⟩
      · intro k hk hw2
        rfl
      · refine zIpa_fr t4 (fun c q1 q2 => by rw [F c (by omega) (by omega) (by omega) (by omega), t1 c (by omega) (by omega) (by omega) (by omega)]) ?_ (fun k hk => ?_) (by rw [F 224 (by decide) (by decide) (by decide) (by decide), t1 224 (by decide) (by decide) (by decide) (by decide)]) (by rw [F 4 (by decide) (by decide) (by decide) (by decide), t1 4 (by decide) (by decide) (by decide) (by decide)])
        · rw [hR, zup_c (by decide), zup_c (by decide)]
        · rw [hR, zup_k (by omega), zup_k (by omega)]
  · obtain ⟨h1, v1, v2, v3, v4, v5⟩ := f173_sp (K := K) (by omega) (zScr_0 (g := g)) m8 l2 l3
    refine ⟨-4, g, h1, ?_, ?_, zInv_scr I v2⟩
    · unfold f75
      rw [f53_s zScr_0 b1, zbd_s, if_pos hw, f76_eq (by omega) (zLn_180 zScr_0 m8 l1), zbd_s, if_neg hs, if_neg (fun q => q rfl)]
    · unfold f187
      rw [f170_s zScr_0 b2, zbd_s, if_pos hw, v1, zbd_s, v3.2.1]
      by_cases h0 : 0 < m
      · have hz : zah (g 182) (-1) m = true := by
          cases hz : zah (g 182) (-1) m with
          | true => rfl
          | false => exact absurd ⟨h0, zhc_0.mpr (zah_f.mp hz)⟩ hs
        rw [if_neg (nI_ne0 h0 (by omega)), f186_eq (by omega) v3, zbd_s, hz, if_neg (by decide)]
      · rw [if_pos (by rw [show m = 0 by omega]; rfl)]
