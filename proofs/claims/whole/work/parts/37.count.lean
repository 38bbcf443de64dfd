-- ===== count =====
theorem f230_lp {K p : Nat} {g : zS} {x : Int32} (hp : g 222 14 = nI p) (hp4 : p ≤ 4) : ∀ d i n a b, i + d = p → f230_7 K (n + d) x a b (nI i) g = f230_7 K n x (zfo (fun i => g 223 (1 + i)) d i a) (zfo (fun i => g 223 (5 + i)) d i b) (nI p) g := by
  intro d
  induction d with
  | zero =>
    intro i n a b h1
    rw [show i = p by omega]
    rfl
  | succ d ih =>
    intro i n a b h1
    have key : f230_7 K (n + d + 1) x a b (nI i) g = f230_7 K (n + d) x (a + g 223 (1 + i)) (b + g 223 (5 + i)) (nI (i + 1)) g := by
      rw [f230_7]
      rw [hp, if_neg (nI_ge (by omega) (by omega)), nI_1, show (1 : Int32) = nI 1 from rfl, show (5 : Int32) = nI 5 from rfl, nI_add, nI_add, if_pos (zin_i (by omega) (by decide)), if_pos (zin_i (by omega) (by decide)), nI_clamp (by omega), nI_clamp (by omega)]
    rw [show n + (d + 1) = n + d + 1 by omega, key, ih (i + 1) n _ _ (by omega)]
    rfl
theorem zp_count {K : Nat} (hK : 12 ≤ K) (n : Nat) (x : Int32) : zPair (zInv n) (zInv (n + 1)) (f142 K x) (f230 K x) := by
  intro g h
  have I := zInv_mono n g h
  obtain ⟨w, p, c, r, l, b0, ⟨b1, b2, b3, b4, b5⟩, ⟨c1, c2, c3, c4, c5⟩, -⟩ := I.2.1
  obtain ⟨s1, s2, s3, s4, s5, s6⟩ := I.2.2.1
  obtain ⟨m, -, t1, t2, -⟩ := I.1
  obtain ⟨⟨nw, sz, -, -, p1, p2, p3, -⟩, -⟩ := I.2.2.2.1
  obtain ⟨ml, -, l1, l2, -⟩ := I.2.2.2.2.1
  obtain ⟨-, md, -, d1, d2, -⟩ := I.2.2.2.2.2
  have hm : f230 K x g = f230_7 K (K - p) x (zfo (fun i => g 223 (1 + i)) p 0 0) (zfo (fun i => g 223 (5 + i)) p 0 0) (nI p) g := by
    unfold f230
    rw [show (f230_7 K K x 0 0 0 g) = f230_7 K ((K - p) + p) x 0 0 (nI 0) g by rw [show K - p + p = K by omega]; rfl, f230_lp c2 (by omega) p 0 (K - p) 0 0 (by omega)]
  obtain ⟨q, hq⟩ : ∃ q, K - p = q + 1 := ⟨K - p - 1, by omega⟩
  rw [hq] at hm
  rw [f230_7, c2, if_pos (Int32.le_refl _)] at hm
  have e9 : zfo (g (35 + 1)) 4 0 0 = zfo (fun i => g 223 (1 + i)) p 0 0 := by
    rw [zfo_cut (p := p) (by omega) (fun j j1 j2 => (s6 j j2 (by rw [b2]; exact fun q => absurd ((nI_ltI (by omega) (by omega)).mp q) (by omega))).1)]
    refine zfo_congr fun j _ hj => ?_
    have e1 := (s3 j (by omega)).1
    rw [Nat.zero_add] at e1
    exact e1
  have e10 : zfo (g (37 + 1)) 4 0 0 = zfo (fun i => g 223 (5 + i)) p 0 0 := by
    rw [zfo_cut (p := p) (by omega) (fun j j1 j2 => (s6 j j2 (by rw [b2]; exact fun q => absurd ((nI_ltI (by omega) (by omega)).mp q) (by omega))).2.1)]
    refine zfo_congr fun j _ hj => ?_
    have e1 := (s3 j (by omega)).2.1
    rw [Nat.zero_add] at e1
    exact e1
  unfold f142
  by_cases x0 : x = 0
  · exact ⟨_, g, g, by rw [if_pos x0], by rw [hm, if_pos x0, b1, c1], I⟩
  by_cases x1 : x = 1
  · exact ⟨_, g, g, by rw [if_neg x0, if_pos x1], by rw [hm, if_neg x0, if_pos x1, b2], I⟩
  by_cases x2 : x = 2
  · exact ⟨_, g, g, by rw [if_neg x0, if_neg x1, if_pos x2], by rw [hm, if_neg x0, if_neg x1, if_pos x2, b3, c3], I⟩
  by_cases x3 : x = 3
  · exact ⟨_, g, g, by rw [if_neg x0, if_neg x1, if_neg x2, if_pos x3], by rw [hm, if_neg x0, if_neg x1, if_neg x2, if_pos x3, b4, c4], I⟩
  by_cases x4 : x = 4
  · exact ⟨_, g, g, by rw [if_neg x0, if_neg x1, if_neg x2, if_neg x3, if_pos x4], by rw [hm, if_neg x0, if_neg x1, if_neg x2, if_neg x3, if_pos x4, b5, c5], I⟩
  by_cases x5 : x = 5
  · exact ⟨_, g, g, by rw [if_neg x0, if_neg x1, if_neg x2, if_neg x3, if_neg x4, if_pos x5], by rw [hm, if_neg x0, if_neg x1, if_neg x2, if_neg x3, if_neg x4, if_pos x5, if_pos (by decide), show (0 : Int32).toNatClampNeg = 0 from rfl, s2], I⟩
  by_cases x6 : x = 6
  · exact ⟨_, g, g, by rw [if_neg x0, if_neg x1, if_neg x2, if_neg x3, if_neg x4, if_neg x5, if_pos x6], by rw [hm, if_neg x0, if_neg x1, if_neg x2, if_neg x3, if_neg x4, if_neg x5, if_pos x6, l1, l2], I⟩
  by_cases x7 : x = 7
  · exact ⟨_, g, g, by rw [if_neg x0, if_neg x1, if_neg x2, if_neg x3, if_neg x4, if_neg x5, if_neg x6, if_pos x7], by rw [hm, if_neg x0, if_neg x1, if_neg x2, if_neg x3, if_neg x4, if_neg x5, if_neg x6, if_pos x7, d1, d2], I⟩
  by_cases x8 : x = 8
  · exact ⟨_, g, g, by rw [if_neg x0, if_neg x1, if_neg x2, if_neg x3, if_neg x4, if_neg x5, if_neg x6, if_neg x7, if_pos x8], by rw [hm, if_neg x0, if_neg x1, if_neg x2, if_neg x3, if_neg x4, if_neg x5, if_neg x6, if_neg x7, if_pos x8, p2, p3], I⟩
  by_cases x9 : x = 9
  · refine ⟨_, g, g, ?_, by rw [hm, if_neg x0, if_neg x1, if_neg x2, if_neg x3, if_neg x4, if_neg x5, if_neg x6, if_neg x7, if_neg x8, if_pos x9], I⟩
    rw [if_neg x0, if_neg x1, if_neg x2, if_neg x3, if_neg x4, if_neg x5, if_neg x6, if_neg x7, if_neg x8, if_pos x9]
    unfold f143
    rw [show (0 : Int32) = nI 0 from rfl, f143_lp (by decide) (by decide) 4 0 K _ rfl (by omega), zbd_s]
    exact congrArg (fun q => some (q, g)) e9
  by_cases x10 : x = 10
  · refine ⟨_, g, g, ?_, by rw [hm, if_neg x0, if_neg x1, if_neg x2, if_neg x3, if_neg x4, if_neg x5, if_neg x6, if_neg x7, if_neg x8, if_neg x9, if_pos x10], I⟩
    rw [if_neg x0, if_neg x1, if_neg x2, if_neg x3, if_neg x4, if_neg x5, if_neg x6, if_neg x7, if_neg x8, if_neg x9, if_pos x10]
    unfold f143
    rw [show (0 : Int32) = nI 0 from rfl, f143_lp (by decide) (by decide) 4 0 K _ rfl (by omega), zbd_s]
    exact congrArg (fun q => some (q, g)) e10
  by_cases x11 : x = 11
  · exact ⟨_, g, g, by rw [if_neg x0, if_neg x1, if_neg x2, if_neg x3, if_neg x4, if_neg x5, if_neg x6, if_neg x7, if_neg x8, if_neg x9, if_neg x10, if_pos x11], by rw [hm, if_neg x0, if_neg x1, if_neg x2, if_neg x3, if_neg x4, if_neg x5, if_neg x6, if_neg x7, if_neg x8, if_neg x9, if_neg x10, if_pos x11, t1, t2], I⟩
  · exact ⟨_, g, g, by rw [if_neg x0, if_neg x1, if_neg x2, if_neg x3, if_neg x4, if_neg x5, if_neg x6, if_neg x7, if_neg x8, if_neg x9, if_neg x10, if_neg x11], by rw [hm, if_neg x0, if_neg x1, if_neg x2, if_neg x3, if_neg x4, if_neg x5, if_neg x6, if_neg x7, if_neg x8, if_neg x9, if_neg x10, if_neg x11], I⟩
