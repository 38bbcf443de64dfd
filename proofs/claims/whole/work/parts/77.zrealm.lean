-- ===== realm =====
theorem zLt_19 : zLt 19 := ⟨by decide +kernel, by decide +kernel, by decide +kernel, by decide +kernel, by decide +kernel, by decide +kernel, by decide +kernel⟩
theorem zRT_hi {L : Nat → Nat} {m : Nat} {g h : zS} (e : ∀ c, 187 ≤ c → h c = g c) (T : zRT L m g) : zRT L m h := by
  unfold zRT
  rw [e 222 (by decide), e 225 (by decide)]
  exact T
theorem zRf_up {t : zTau} {g h : zS} (e : ∀ c, 187 ≤ c → h c = g c) (R : zRf t g) : zRf t h := by
  unfold zRf
  rw [e 222 (by decide), e 227 (by decide), e 228 (by decide), e 229 (by decide), e 230 (by decide), e 231 (by decide)]
  exact R
theorem zCl4_fr {t : zTau} {g h : zS} (C : zCl 4 t g) (e : ∀ c, 4 ≤ c → c ≤ 18 → h c = g c) : zCl 4 t h := by
  unfold zCl
  rw [e 4 (by decide) (by decide), e (4 + 2) (by decide) (by decide), e (4 + 4) (by decide) (by decide), e (4 + 6) (by decide) (by decide), e (4 + 8) (by decide) (by decide), e (4 + 10) (by decide) (by decide), e (4 + 12) (by decide) (by decide), e (4 + 14) (by decide) (by decide)]
  exact C
theorem zRf_fr {t : zTau} {g h : zS} (R : zRf t g) (e : ∀ c, 227 ≤ c → c ≤ 231 → h c = g c) (k : ∀ i, i ≠ 18 → i ≠ 21 → i ≠ 1 → i ≠ 4 → h 222 i = g 222 i) : zRf t h := by
  unfold zRf
  rw [k 9 (by decide) (by decide) (by decide) (by decide), k 14 (by decide) (by decide) (by decide) (by decide), k 11 (by decide) (by decide) (by decide) (by decide), k 15 (by decide) (by decide) (by decide) (by decide), k 16 (by decide) (by decide) (by decide) (by decide), e 227 (by decide) (by decide), e 228 (by decide) (by decide), e 229 (by decide) (by decide), e 230 (by decide) (by decide), e 231 (by decide) (by decide)]
  exact R
theorem zfz_0 {p r i : Nat} (h : i = 0 ∨ 9 ≤ i) : zfz p r i = 0 := if_neg (by omega)
theorem zfz_h {p r i : Nat} (h : i < 4) : zfz p r (0 + 1 + i) = if i < p then 2 * r else 0 := by
  unfold zfz
  by_cases q : i < p
  · rw [if_pos (show 1 ≤ 0 + 1 + i ∧ 0 + 1 + i < 9 ∧ (0 + 1 + i - 1) % 4 < p by omega), if_pos (show 0 + 1 + i < 5 by omega), if_pos q]
  · rw [if_neg (show ¬ (1 ≤ 0 + 1 + i ∧ 0 + 1 + i < 9 ∧ (0 + 1 + i - 1) % 4 < p) by omega), if_neg q]
theorem zfz_l {p r i : Nat} (h : i < 4) : zfz p r (0 + 5 + i) = if i < p then 10 else 0 := by
  unfold zfz
  by_cases q : i < p
  · rw [if_pos (show 1 ≤ 0 + 5 + i ∧ 0 + 5 + i < 9 ∧ (0 + 5 + i - 1) % 4 < p by omega), if_neg (show ¬ 0 + 5 + i < 5 by omega), if_pos q]
  · rw [if_neg (show ¬ (1 ≤ 0 + 5 + i ∧ 0 + 5 + i < 9 ∧ (0 + 5 + i - 1) % 4 < p) by omega), if_neg q]
theorem zIst_new {n p r : Nat} {g : zS} (hp : p ≤ 4) (hr : r ≤ 20) (h4 : g 4 1 = nI p) (h34 : g 34 0 = 0) (a : ∀ i, i < 4 → g 36 i = nI (if i < p then 2 * r else 0) ∧ g 38 i = nI (if i < p then 10 else 0) ∧ g 40 i = 0 ∧ g 42 i = 0) (b : ∀ i, i < 40 → g 44 i = 0) (c : ∀ i, i < 16 → g 46 i = 0) (d : ∀ k, k < 73 → g 223 k = nI (zfz p r k)) : zIst n 34 0 g := by
  refine ⟨⟨0, by omega, h34⟩, ?_, fun i hi => ?_, fun i hi => ?_, fun i hi => ?_, fun i hi hi2 => ?_⟩
  · rw [h34, d 0 (by omega), zfz_0 (Or.inl rfl)]; rfl
  · obtain ⟨a1, a2, a3, a4⟩ := a i hi
    show g 36 i = _ ∧ g 38 i = _ ∧ g 40 i = _ ∧ g 42 i = _ ∧ ∃ h : Nat, h ≤ 60 ∧ g 36 i = nI h
    rw [a1, a2, a3, a4, d _ (by omega), d _ (by omega), d _ (by omega), d _ (by omega), zfz_h hi, zfz_l hi, zfz_0 (i := 0 + 9 + i) (by omega), zfz_0 (i := 0 + 13 + i) (by omega)]
    refine ⟨rfl, rfl, rfl, rfl, _, ?_, rfl⟩
    by_cases q : i < p
    · rw [if_pos q]; omega
    · rw [if_neg q]; omega
  · show g 44 i = _ ∧ ∃ t : Nat, t ≤ 8 * n ∧ g 44 i = nI t
    rw [b i hi, d _ (by omega), zfz_0 (by omega)]
    exact ⟨rfl, 0, by omega, rfl⟩
  · show g 46 i = _ ∧ ∃ t : Nat, t ≤ 999 ∧ g 46 i = nI t
    rw [c i hi, d _ (by omega), zfz_0 (by omega)]
    exact ⟨rfl, 0, by omega, rfl⟩
  · obtain ⟨a1, a2, a3, a4⟩ := a i hi
    have hip : ¬ i < p := fun z => hi2 (by rw [h4]; exact nI_lt z (by omega))
    rw [if_neg hip] at a1 a2
    exact ⟨a1, a2, fun j hj => b _ (by omega), fun j hj => ⟨c _ (by omega), c _ (by omega)⟩⟩
theorem zp_realm {K : Nat} (hK : 200 ≤ K) (n : Nat) : zPair (zInv n) (zInv (n + 1)) (f43 K) (f160 K) := by
  intro g I
  obtain ⟨t, B, C, R⟩ := zto_tau I.2.1
  obtain ⟨m, L, hm, hL, T, RT⟩ := ztxt I.1
  obtain ⟨g1, g2, e1, e2, e3, e4, e5, e6⟩ := zrd_c hK hm hL T B C
  have s2 : zScr g g2 := zrd_sc e3 e4 e5
  have Z := zrl_fd (L := L) (m := m) (t0 := t) 14 1 t (zBg L m 0) (fun _ _ => 0) rfl (by omega) (zBg_le rfl (Nat.zero_le _)).2 B rfl (fun j hj => absurd hj (Nat.not_lt_zero _))
  by_cases q : (zrl L m 14 t (zBg L m 0) 1 (fun _ _ => 0)).1 = 999
  · have RR := fun (h : zS) (hRT : zRT L m h) (hRf : zRf t h) => zrd_r (K := K) (g := h) hK hm hL hRT B hRf
    generalize zrl L m 14 t (zBg L m 0) 1 (fun _ _ => 0) = z at *
    obtain ⟨c2, b2, n2⟩ := e6 q
    obtain ⟨p1, p2, p3⟩ : z.2.1 ≤ 14 ∧ z.2.2.1 = zfd t z.2.2.2 z.2.1 ∧ ∀ j, j < z.2.1 → zVc (zfd t z.2.2.2 j) (z.2.2.2 j) ∧ zBd (zfd t z.2.2.2 j) := (Z.resolve_left (by omega)).2
    obtain ⟨g3, a1, a2, a3⟩ := f17_sp (K := K) (a := 4) (b := 19) (g := g2) (by omega) zLt_4 zLt_19 (Or.inl (by decide))
    have c4 := a3 _ b2 c2
    have B2 : zBd z.2.2.1 := b2
    obtain ⟨b20, b21, b22, b23, b24, -⟩ := b2
    obtain ⟨g4, d1, d2, d3, d4, d5, d6⟩ := f44_sp (K := K) (p := z.2.2.1 0 1) (v := 2 * z.2.2.1 0 3) (g := g3) (by omega) b21
    obtain ⟨h, hh⟩ : ∃ h, h = zup (zup (zup (zup (zup g4 47 3 0) 47 4 0) 180 1 0) 186 4 0) 1 1 0 := ⟨_, rfl⟩
    have h4c : ∀ c, c ≠ 47 → c ≠ 180 → c ≠ 186 → c ≠ 1 → h c = g4 c := fun c x1 x2 x3 x4 => by rw [hh, zup_c x4, zup_c x3, zup_c x2, zup_c x1, zup_c x1]
    have hup : ∀ c, 187 ≤ c → h c = g c := fun c hc => by rw [h4c c (by omega) (by omega) (by omega) (by omega), d2 c (by omega), a2 c (by omega), e3 c (by omega) (by omega)]
    have h12 : h 1 2 = nI z.2.1 := by rw [hh, zup_k (by decide), zup_c (by decide), zup_c (by decide), zup_c (by decide), zup_c (by decide), d2 1 (by decide), a2 1 (by decide), n2]
    obtain ⟨g5, u1, u2, u3, u4⟩ := RR h (zRT_hi hup RT) (zRf_up hup R)
    obtain ⟨w1, w2⟩ := u4 q
    have R5 : zRf t g5 := by
      have R0 := zRf_up hup R
      unfold zRf at R0 ⊢
      rw [u3 9 (by decide) (by decide), u3 14 (by decide) (by decide), u3 11 (by decide) (by decide), u3 15 (by decide) (by decide), u3 16 (by decide) (by decide), u2 227 (by decide) (by decide), u2 228 (by decide) (by decide), u2 229 (by decide) (by decide), u2 230 (by decide) (by decide), u2 231 (by decide) (by decide)]
      exact R0
    obtain ⟨g6, x1, x2, x3, x4⟩ := f160_13_lp (K := K) (n := z.2.1) (t := t) (ks := z.2.2.2) (by omega) p1 (fun j hj => (p3 j hj).1) z.2.1 0 K g5 (by omega) (by omega) R5 w2 w1
    rw [← p2] at x2
    obtain ⟨g7, y1, y2, y3, y4, y5, y6, y7, y8, y9, -, y11⟩ := f160_36_lp (K := K) (p := z.2.2.1 0 1) (r := z.2.2.1 0 3) b21 b23 73 0 K g6 rfl (by omega) x2.1.2.1 x2.1.2.2.2.1
    have R7 : zRf z.2.2.1 g7 := zRf_fr x2 (fun c c1 c2 => y2 c (by omega) (by omega) (by omega)) y3
    have low : ∀ c, c < 222 → g7 c = h c := fun c hc => by rw [y2 c (by omega) (by omega) (by omega), x3 c (by omega) (by omega), u2 c (by omega) (by omega)]
    have C7 : zCl 4 z.2.2.1 g7 := zCl4_fr c4 (fun c c1 c2 => by rw [low c (by omega), h4c c (by omega) (by omega) (by omega) (by omega), d2 c (by omega)])
    refine ⟨nI z.2.1, h, g7, ?_, ?_, ⟨0, by omega, ?_, y7, fun i hi => by omega⟩, zto_of B2 C7 R7, ?_, ?_, ⟨0, by omega, ?_, y4, fun i hi => by omega⟩, ?_, 0, by omega, ?_, y5, fun i hi => by omega⟩
    · unfold f43
      rw [e1, zbd_s, e2, zbd_s, if_pos (show zrq z.1 = -1 from if_pos q), a1, zbd_s, c4.1.2.1, c4.1.2.2.2.1, show 2 * nI (z.2.2.1 0 3) = nI (2 * z.2.2.1 0 3) from nI_mu 2 _, d1, zbd_s]
      unfold f46
      rw [zbd_s, ← hh, h12]
    · unfold f160
      rw [u1, zbd_s, if_pos (show zrq z.1 = -1 from if_pos q), show f160_13 K K 0 g5 = f160_13 K K (nI 0) g5 from rfl, x1, show f160_36 K K 0 g6 = f160_36 K K (nI 0) g6 from rfl, y1, x4 6 (by decide) (by decide) (by decide) (by decide) (by decide), w1]
    · rw [low 1 (by decide), hh, zup_s]; rfl
    · refine zIst_new b21 b23 C7.1.2.1 ?_ (fun i hi => ?_) (fun i hi => ?_) (fun i hi => ?_) (fun k hk => y11 k (Nat.zero_le _) hk)
      · rw [low 34 (by decide), h4c 34 (by decide) (by decide) (by decide) (by decide)]; exact d3
      · rw [low 36 (by decide), low 38 (by decide), low 40 (by decide), low 42 (by decide), h4c 36 (by decide) (by decide) (by decide) (by decide), h4c 38 (by decide) (by decide) (by decide) (by decide), h4c 40 (by decide) (by decide) (by decide) (by decide), h4c 42 (by decide) (by decide) (by decide) (by decide)]; exact d4 i hi
      · rw [low 44 (by decide), h4c 44 (by decide) (by decide) (by decide) (by decide)]; exact d5 i hi
      · rw [low 46 (by decide), h4c 46 (by decide) (by decide) (by decide) (by decide)]; exact d6 i hi
    · obtain ⟨⟨nw, sz, n1, n2', n3, -⟩, -⟩ := I.2.2.2.1
      refine ⟨⟨nw, 0, n1, by omega, ?_, ?_, y6, fun t ht => by omega⟩, false, false, ?_, y8, y9, fun z => (absurd z Bool.false_ne_true), fun z => (absurd z Bool.false_ne_true)⟩
      · rw [low 47 (by decide), hh, zup_c (by decide), zup_c (by decide), zup_c (by decide), zup_k (by decide), zup_k (by decide), d2 47 (by decide), a2 47 (by decide), e3 47 (by decide) (by decide)]; exact n3
      · rw [low 47 (by decide), hh, zup_c (by decide), zup_c (by decide), zup_c (by decide), zup_k (by decide), zup_s]; rfl
      · rw [low 47 (by decide), hh, zup_c (by decide), zup_c (by decide), zup_c (by decide), zup_s]; rfl
    · rw [low 180 (by decide), hh, zup_c (by decide), zup_c (by decide), zup_s]; rfl
    · rw [low 221 (by decide), hup 221 (by decide)]; exact I.2.2.2.2.2.1
    · rw [low 186 (by decide), hh, zup_c (by decide), zup_s]; rfl
  · have q2 : (zrl L m 14 t (zBg L m 0) 1 (fun _ _ => 0)).1 ≤ 160 := by
      rcases Z with z | ⟨z, -⟩
      · omega
      · exact absurd z q
    have q3 : ¬ zrq (zrl L m 14 t (zBg L m 0) 1 (fun _ _ => 0)).1 = -1 := by
      unfold zrq
      rw [if_neg q]
      exact nI_nm1 (by omega)
    obtain ⟨g4, d1, d2, d3, -⟩ := zrd_r hK hm hL (zRT_scr s2 RT) B (zRf_scr s2 R)
    refine ⟨-4, g2, g4, ?_, ?_, zInv_mono _ _ (zInv_scr I (zrd_sr s2 d2 d3))⟩
    · unfold f43
      rw [e1, zbd_s, e2, zbd_s, if_neg q3]
    · unfold f160
      rw [d1, zbd_s, if_neg q3]
