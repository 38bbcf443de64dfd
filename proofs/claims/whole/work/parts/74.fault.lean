-- ===== fault =====
theorem zto_tau {g : zS} (I : zIto g) : ∃ t : zTau, zBd t ∧ zCl 4 t g ∧ zRf t g := by
  obtain ⟨w, p, c, r, l, b0, ⟨b1, b2, b3, b4, b5⟩, ⟨c1, c2, c3, c4, c5⟩, d1, d2, d3⟩ := I
  have cl : ∀ (c i x : Nat), x < 2 ^ 31 → g c i = nI x → (g c i).toNatClampNeg = x := fun c i x hx h => by rw [h, nI_clamp hx]
  refine ⟨fun a i => if a = 0 then (if i = 0 then w else if i = 1 then p else if i = 2 then c else if i = 3 then r else l) else (g (4 + 2 * a) i).toNatClampNeg, ⟨?_, ?_, ?_, ?_, ?_, fun i hi => ?_, fun i hi => ?_, fun i hi => ?_⟩, ⟨⟨b1, b2, b3, b4, b5⟩, fun i hi => ?_, fun i hi => ?_, fun i hi => ?_⟩, ⟨⟨c1, c2, c3, c4, c5⟩, fun i hi => ?_, fun i hi => ?_, fun i hi => ?_⟩⟩
  · show w ≤ 10; omega
  · show p ≤ 4; omega
  · show c ≤ 6; omega
  · show r ≤ 20; omega
  · show l ≤ 7; omega
  · obtain ⟨-, -, ⟨x, x1, x2⟩, y, y1, y2⟩ := d1 i hi
    show (g 6 i).toNatClampNeg ≤ 4 ∧ (g 8 i).toNatClampNeg ≤ 30
    rw [cl 6 i x (by omega) x2, cl 8 i y (by omega) y2]
    exact ⟨x1, y1⟩
  · obtain ⟨-, -, ⟨x, x1, x2⟩, y, y1, y2⟩ := d2 i hi
    show (g 10 i).toNatClampNeg ≤ 3 ∧ (g 12 i).toNatClampNeg ≤ 20
    rw [cl 10 i x (by omega) x2, cl 12 i y (by omega) y2]
    exact ⟨x1, y1⟩
  · obtain ⟨-, -, -, ⟨x, x1, x2⟩, ⟨y, y1, y2⟩, z, z1, z2⟩ := d3 i hi
    show (g 14 i).toNatClampNeg < w ∧ (g 16 i).toNatClampNeg ≤ 4 ∧ (g 18 i).toNatClampNeg ≤ 99
    rw [cl 14 i x (by omega) x2, cl 16 i y (by omega) y2, cl 18 i z (by omega) z2]
    exact ⟨x1, y1, z1⟩
  · obtain ⟨-, -, ⟨x, x1, x2⟩, y, y1, y2⟩ := d1 i hi
    show g 6 i = nI (g 6 i).toNatClampNeg ∧ g 8 i = nI (g 8 i).toNatClampNeg
    rw [cl 6 i x (by omega) x2, cl 8 i y (by omega) y2]
    exact ⟨x2, y2⟩
  · obtain ⟨-, -, ⟨x, x1, x2⟩, y, y1, y2⟩ := d2 i hi
    show g 10 i = nI (g 10 i).toNatClampNeg ∧ g 12 i = nI (g 12 i).toNatClampNeg
    rw [cl 10 i x (by omega) x2, cl 12 i y (by omega) y2]
    exact ⟨x2, y2⟩
  · obtain ⟨-, -, -, ⟨x, x1, x2⟩, ⟨y, y1, y2⟩, z, z1, z2⟩ := d3 i hi
    show g 14 i = nI (g 14 i).toNatClampNeg ∧ g 16 i = nI (g 16 i).toNatClampNeg ∧ g 18 i = nI (g 18 i).toNatClampNeg
    rw [cl 14 i x (by omega) x2, cl 16 i y (by omega) y2, cl 18 i z (by omega) z2]
    exact ⟨x2, y2, z2⟩
  · obtain ⟨e1, e2, ⟨x, x1, x2⟩, y, y1, y2⟩ := d1 i hi
    show g 227 i = nI (g 6 i).toNatClampNeg ∧ g 228 i = nI (g 8 i).toNatClampNeg
    rw [cl 6 i x (by omega) x2, cl 8 i y (by omega) y2, ← e1, ← e2]
    exact ⟨x2, y2⟩
  · obtain ⟨e1, e2, ⟨x, x1, x2⟩, y, y1, y2⟩ := d2 i hi
    show g 230 i = nI (g 10 i).toNatClampNeg ∧ g 231 i = nI (g 12 i).toNatClampNeg
    rw [cl 10 i x (by omega) x2, cl 12 i y (by omega) y2, ← e1, ← e2]
    exact ⟨x2, y2⟩
  · obtain ⟨e1, e2, e3, ⟨x, x1, x2⟩, ⟨y, y1, y2⟩, z, z1, z2⟩ := d3 i hi
    show g 229 (3 * i) = nI (g 14 i).toNatClampNeg ∧ g 229 (3 * i + 1) = nI (g 16 i).toNatClampNeg ∧ g 229 (3 * i + 2) = nI (g 18 i).toNatClampNeg
    rw [cl 14 i x (by omega) x2, cl 16 i y (by omega) y2, cl 18 i z (by omega) z2, ← e1, ← e2, ← e3]
    exact ⟨x2, y2, z2⟩
theorem zto_of {t : zTau} {g : zS} (B : zBd t) (C : zCl 4 t g) (R : zRf t g) : zIto g := by
  obtain ⟨b1, b2, b3, b4, b5, b6, b7, b8⟩ := B
  obtain ⟨c0, c1, c2, c3⟩ := C
  obtain ⟨r0, r1, r2, r3⟩ := R
  refine ⟨t 0 0, t 0 1, t 0 2, t 0 3, t 0 4, ⟨b1, b2, b3, b4, b5⟩, c0, r0, fun i hi => ?_, fun i hi => ?_, fun i hi => ?_⟩
  · exact ⟨(c1 i hi).1.trans (r1 i hi).1.symm, (c1 i hi).2.trans (r1 i hi).2.symm, ⟨_, (b6 i hi).1, (c1 i hi).1⟩, _, (b6 i hi).2, (c1 i hi).2⟩
  · exact ⟨(c2 i hi).1.trans (r2 i hi).1.symm, (c2 i hi).2.trans (r2 i hi).2.symm, ⟨_, (b7 i hi).1, (c2 i hi).1⟩, _, (b7 i hi).2, (c2 i hi).2⟩
  · exact ⟨(c3 i hi).1.trans (r3 i hi).1.symm, (c3 i hi).2.1.trans (r3 i hi).2.1.symm, (c3 i hi).2.2.trans (r3 i hi).2.2.symm, ⟨_, (b8 i hi).1, (c3 i hi).1⟩, ⟨_, (b8 i hi).2.1, (c3 i hi).2.1⟩, _, (b8 i hi).2.2, (c3 i hi).2.2⟩
def zLt (a : Nat) : Prop := zlen (a + 1 + 1) = 10 ∧ zlen (a + 3 + 1) = 10 ∧ zlen (a + 5 + 1) = 4 ∧ zlen (a + 7 + 1) = 4 ∧ zlen (a + 9 + 1) = 6 ∧ zlen (a + 11 + 1) = 6 ∧ zlen (a + 13 + 1) = 6
theorem zLt_4 : zLt 4 := ⟨by decide +kernel, by decide +kernel, by decide +kernel, by decide +kernel, by decide +kernel, by decide +kernel, by decide +kernel⟩
theorem f17_sp {K a b : Nat} {g : zS} (hK : 40 < K) (ha : zLt a) (hb : zLt b) (hd : a + 15 ≤ b ∨ b + 15 ≤ a) : ∃ g', f17 K a b g = some ((), g') ∧ (∀ c, c < a ∨ a + 14 < c → g' c = g c) ∧ ∀ t, zBd t → zCl b t g → zCl a t g' := by
  obtain ⟨a1, a2, a3, a4, a5, a6, a7⟩ := ha
  obtain ⟨b1, b2, b3, b4, b5, b6, b7⟩ := hb
  have eb : ∀ k v X, (zup X a k v) b = X b := fun k v X => zup_c (by omega)
  obtain ⟨h0, hh⟩ : ∃ h0, h0 = zup (zup (zup (zup (zup g a 0 (g b 0)) a 1 (g b 1)) a 2 (g b 2)) a 3 (g b 3)) a 4 (g b 4) := ⟨_, rfl⟩
  obtain ⟨g1, x1, y1, z1⟩ := f18_sp (K := K) (g := h0) a1 b1 (by decide) (by omega) (by omega)
  obtain ⟨g2, x2, y2, z2⟩ := f18_sp (K := K) (g := g1) a2 b2 (by decide) (by omega) (by omega)
  obtain ⟨g3, x3, y3, z3⟩ := f18_sp (K := K) (g := g2) a3 b3 (by decide) (by omega) (by omega)
  obtain ⟨g4, x4, y4, z4⟩ := f18_sp (K := K) (g := g3) a4 b4 (by decide) (by omega) (by omega)
  obtain ⟨g5, x5, y5, z5⟩ := f18_sp (K := K) (g := g4) a5 b5 (by decide) (by omega) (by omega)
  obtain ⟨g6, x6, y6, z6⟩ := f18_sp (K := K) (g := g5) a6 b6 (by decide) (by omega) (by omega)
  obtain ⟨g7, x7, y7, z7⟩ := f18_sp (K := K) (g := g6) a7 b7 (by decide) (by omega) (by omega)
  have h0c : ∀ c, c ≠ a → h0 c = g c := fun c hc => by rw [hh, zup_c hc, zup_c hc, zup_c hc, zup_c hc, zup_c hc]
  have ec : ∀ c, (∀ i, i < 7 → c ≠ a + 2 * i + 1 + 1) → c ≠ a → g7 c = g c := fun c hc ha => by rw [y7 c (hc 6 (by omega)), y6 c (hc 5 (by omega)), y5 c (hc 4 (by omega)), y4 c (hc 3 (by omega)), y3 c (hc 2 (by omega)), y2 c (hc 1 (by omega)), y1 c (hc 0 (by omega)), h0c c ha]
  refine ⟨g7, ?_, fun c hc => ec c (fun i hi => by omega) (by omega), fun t B C => ?_⟩
  · unfold f17
    simp only [eb]
    rw [← hh, x1, zbd_s, x2, zbd_s, x3, zbd_s, x4, zbd_s, x5, zbd_s, x6, zbd_s, x7, zbd_s]
  · obtain ⟨bb1, bb2, bb3, -⟩ := B
    obtain ⟨⟨c0, c1, c2, c3, c4⟩, c5, c6, c7⟩ := C
    have ea : ∀ k, g7 a k = h0 a k := fun k => by rw [y7 a (by omega), y6 a (by omega), y5 a (by omega), y4 a (by omega), y3 a (by omega), y2 a (by omega), y1 a (by omega)]
    have v1 : ∀ k, k < 10 → g7 (a + 2) k = g (b + 2) k := fun k hk => by
      rw [y7 _ (by omega), y6 _ (by omega), y5 _ (by omega), y4 _ (by omega), y3 _ (by omega), y2 _ (by omega)]
      exact (z1 k hk).trans (by rw [h0c _ (by omega)])
    have v2 : ∀ k, k < 10 → g7 (a + 4) k = g (b + 4) k := fun k hk => by
      rw [y7 _ (by omega), y6 _ (by omega), y5 _ (by omega), y4 _ (by omega), y3 _ (by omega)]
      exact (z2 k hk).trans (by rw [y1 _ (by omega), h0c _ (by omega)])
    have v3 : ∀ k, k < 4 → g7 (a + 6) k = g (b + 6) k := fun k hk => by
      rw [y7 _ (by omega), y6 _ (by omega), y5 _ (by omega), y4 _ (by omega)]
      exact (z3 k hk).trans (by rw [y2 _ (by omega), y1 _ (by omega), h0c _ (by omega)])
    have v4 : ∀ k, k < 4 → g7 (a + 8) k = g (b + 8) k := fun k hk => by
      rw [y7 _ (by omega), y6 _ (by omega), y5 _ (by omega)]
      exact (z4 k hk).trans (by rw [y3 _ (by omega), y2 _ (by omega), y1 _ (by omega), h0c _ (by omega)])
    have v5 : ∀ k, k < 6 → g7 (a + 10) k = g (b + 10) k := fun k hk => by
      rw [y7 _ (by omega), y6 _ (by omega)]
      exact (z5 k hk).trans (by rw [y4 _ (by omega), y3 _ (by omega), y2 _ (by omega), y1 _ (by omega), h0c _ (by omega)])
    have v6 : ∀ k, k < 6 → g7 (a + 12) k = g (b + 12) k := fun k hk => by
      rw [y7 _ (by omega)]
      exact (z6 k hk).trans (by rw [y5 _ (by omega), y4 _ (by omega), y3 _ (by omega), y2 _ (by omega), y1 _ (by omega), h0c _ (by omega)])
    have v7 : ∀ k, k < 6 → g7 (a + 14) k = g (b + 14) k := fun k hk => (z7 k hk).trans (by rw [y6 _ (by omega), y5 _ (by omega), y4 _ (by omega), y3 _ (by omega), y2 _ (by omega), y1 _ (by omega), h0c _ (by omega)])
    refine ⟨⟨?_, ?_, ?_, ?_, ?_⟩, fun i hi => ?_, fun i hi => ?_, fun i hi => ?_⟩
    · rw [ea, hh, zup_k (by decide), zup_k (by decide), zup_k (by decide), zup_k (by decide), zup_s]; exact c0
    · rw [ea, hh, zup_k (by decide), zup_k (by decide), zup_k (by decide), zup_s]; exact c1
    · rw [ea, hh, zup_k (by decide), zup_k (by decide), zup_s]; exact c2
    · rw [ea, hh, zup_k (by decide), zup_s]; exact c3
    · rw [ea, hh, zup_s]; exact c4
    · rw [v1 i (by omega), v2 i (by omega)]; exact c5 i hi
    · rw [v3 i (by omega), v4 i (by omega)]; exact c6 i hi
    · rw [v5 i (by omega), v6 i (by omega), v7 i (by omega)]; exact c7 i hi
/-- the class: the sketch is what is told, and is read on -/
theorem zrd_c {K m : Nat} {L : Nat → Nat} {t : zTau} {g : zS} (hK : 200 ≤ K) (hm : m ≤ 160) (hL : ∀ i, i < m → L i ≤ 255) (T : zCT L m g) (B : zBd t) (C : zCl 4 t g) : ∃ g1 g2, f17 K 19 4 g = some ((), g1) ∧ f19 K 19 g1 = some (zrq (zrl L m 14 t (zBg L m 0) 1 (fun _ _ => 0)).1, g2) ∧ (∀ c, c ≠ 1 → c < 19 ∨ 33 < c → g2 c = g c) ∧ g2 1 1 = g 1 1 ∧ g2 1 0 = g 1 0 ∧ ((zrl L m 14 t (zBg L m 0) 1 (fun _ _ => 0)).1 = 999 → zCl 19 (zrl L m 14 t (zBg L m 0) 1 (fun _ _ => 0)).2.2.1 g2 ∧ zBd (zrl L m 14 t (zBg L m 0) 1 (fun _ _ => 0)).2.2.1 ∧ g2 1 2 = nI (zrl L m 14 t (zBg L m 0) 1 (fun _ _ => 0)).2.1) := by
  obtain ⟨g1, e1, e2, e3⟩ := f17_sp (K := K) (a := 19) (b := 4) (g := g) (by omega) zl21 zLt_4 (by omega)
  have C1 := e3 t B C
  have T1 : zCT L m (zup g1 1 4 0) := ⟨by rw [zup_k (by decide), e2 1 (by omega)]; exact T.1, fun i hi => by rw [zup_c (by decide), e2 3 (by omega)]; exact T.2 i hi⟩
  obtain ⟨g2, a1, a2, a3, a4, a5⟩ := f20_sp (K := K) (i := 0) hK hm hL (Nat.zero_le _) T1 (by rw [zup_s]; rfl)
  have S2 : zStp L m (zBg L m 0) (zup g2 1 2 1) := ⟨⟨by rw [zup_k (by decide), a3 1 (by decide) (by decide)]; exact T1.1, fun i hi => by rw [zup_c (by decide), a2 3 (by decide)]; exact T1.2 i hi⟩, (zBg_le rfl (Nat.zero_le _)).2, by rw [zup_k (by decide)]; exact a4, by rw [zup_k (by decide)]; exact a5⟩
  obtain ⟨g3, d1, d2, d3, d4, d5⟩ := f19_lp (K := K) hK hm hL 14 1 K t (zBg L m 0) (fun _ _ => 0) (zup g2 1 2 1) rfl (by omega) (by omega) (by omega) B S2 (zCl_fr C1 fun c c1 c2 => by rw [zup_c (by omega), a2 c (by omega), zup_c (by omega)]) (by rw [zup_s]; rfl)
  refine ⟨g1, g3, e1, ?_, fun c c1 c2 => by rw [d2 c c1 c2, zup_c c1, a2 c c1, zup_c c1, e2 c (by omega)], by rw [d3, zup_k (by decide), a3 1 (by decide) (by decide), zup_k (by decide), e2 1 (by omega)], by rw [d4, zup_k (by decide), a3 0 (by decide) (by decide), zup_k (by decide), e2 1 (by omega)], d5⟩
  unfold f19
  rw [a1, zbd_s]
  exact d1
-- ===== the reference reads =====
def zRS (L : Nat → Nat) (m s : Nat) (g : zS) : Prop := zRT L m g ∧ s ≤ m ∧ g 222 22 = nI (zE L m s) ∧ g 222 23 = nI s ∧ g 222 24 = nI (zE L m s)
def zRcn (t : zTau) (g : zS) : Prop := g 222 25 = nI (t 0 0) ∧ g 222 26 = nI (t 0 2) ∧ g 222 27 = nI (t 0 1)
def zR1 (k : Nat → Nat) (j : Nat) (g : zS) : Prop := g 226 (4 * j) = nI (k 0) ∧ (((1 ≤ k 0 ∧ k 0 ≤ 11)) → g 226 (4 * j + 1) = nI (k 1)) ∧ (k 0 = 6 → g 226 (4 * j + 2) = nI (k 2) ∧ g 226 (4 * j + 3) = nI (k 3))
theorem zRS_226 {L : Nat → Nat} {m s i : Nat} {v : Int32} {g : zS} (S : zRS L m s g) : zRS L m s (zup g 226 i v) := ⟨⟨by rw [zup_c (by decide)]; exact S.1.1, fun i hi => by rw [zup_c (by decide)]; exact S.1.2 i hi⟩, S.2.1, by rw [zup_c (by decide)]; exact S.2.2.1, by rw [zup_c (by decide)]; exact S.2.2.2.1, by rw [zup_c (by decide)]; exact S.2.2.2.2⟩
theorem f149_n {K m s : Nat} {L : Nat → Nat} {g : zS} (hK : 200 ≤ K) (hm : m ≤ 160) (hL : ∀ i, i < m → L i ≤ 255) (S : zRS L m s g) : ∃ g', f149 K g = some ((), g') ∧ zRS L m (zNx L m s) g' ∧ (∀ c, c ≠ 222 → g' c = g c) ∧ ∀ k, k ≠ 22 → k ≠ 23 → k ≠ 24 → g' 222 k = g 222 k := by
  obtain ⟨T, hs, h2, h3, h4⟩ := S
  obtain ⟨e1, e2, e3⟩ := zE_le (L := L) hs
  obtain ⟨g', a1, a2, a3, a4, a5, a6⟩ := f149_sp hK hm hL e2 T h2
  exact ⟨g', a1, ⟨⟨by rw [a3 4 (by decide) (by decide) (by decide)]; exact T.1, fun i hi => by rw [a2 225 (by decide)]; exact T.2 i hi⟩, zNx_le hs, a4, a5, a6⟩, a2, a3⟩
/-- a number is read into its place -/
theorem f159_n {K m s j r : Nat} {L : Nat → Nat} {x : Int32} {g : zS} (hK : 200 ≤ K) (hm : m ≤ 160) (hL : ∀ i, i < m → L i ≤ 255) (S : zRS L m s g) (hr : g 222 6 = nI r) (hi : 4 * r + 1 + j < 56) (hv : ¬ (zNm L m s = 100 ∨ x < nI (zNm L m s))) : ∃ g', f159 K (nI j) 0 x g = some (1, g') ∧ zRS L m (zNx L m s) g' ∧ (∀ c, c ≠ 222 → c ≠ 226 → g' c = g c) ∧ (∀ k, k ≠ 22 → k ≠ 23 → k ≠ 24 → g' 222 k = g 222 k) ∧ g' 226 (4 * r + 1 + j) = nI (zNm L m s) ∧ ∀ i, i ≠ 4 * r + 1 + j → g' 226 i = g 226 i := by
  obtain ⟨g', a1, a2, a3, a4⟩ := f149_n hK hm hL (zRS_226 (i := 4 * r + 1 + j) (v := nI (zNm L m s)) S)
  refine ⟨g', ?_, a2, fun c c1 c2 => by rw [a3 c c1, zup_c c2], fun k k1 k2 k3 => by rw [a4 k k1 k2 k3, zup_c (by decide)], by rw [a3 226 (by decide), zup_s], fun i hi2 => by rw [a3 226 (by decide), zup_k hi2]⟩
  rw [f159_sp (by omega) hm hL S.2.1 S.1 S.2.2.2.1 S.2.2.2.2 hr hi, if_neg hv, a1, zbd_s]
theorem f159_no {K m s j r : Nat} {L : Nat → Nat} {x : Int32} {g : zS} (hK : 200 ≤ K) (hm : m ≤ 160) (hL : ∀ i, i < m → L i ≤ 255) (S : zRS L m s g) (hr : g 222 6 = nI r) (hi : 4 * r + 1 + j < 56) (hv : zNm L m s = 100 ∨ x < nI (zNm L m s)) : f159 K (nI j) 0 x g = some (0, g) := by
  rw [f159_sp (by omega) hm hL S.2.1 S.1 S.2.2.2.1 S.2.2.2.2 hr hi, if_pos hv]
theorem f156_eq {K k : Nat} {g : zS} (hk : k < 100) : f156 K (nI k) g = some (if 1 ≤ k ∧ k ≤ 5 then 1 else 0, g) := by
  unfold f156
  rw [i64_1, i64_5, f146_eq, zbd_s, if_pos (zwi_01 _ _ _), show zwi (nI k) 1 5 = if 1 ≤ k ∧ k ≤ 5 then 1 else 0 from zwi_nat (a := 1) (b := 5) (by omega) (by omega) (by omega)]
theorem f157_eq {K k : Nat} {g : zS} (hk : k < 100) : f157 K (nI k) g = some (if 7 ≤ k ∧ k ≤ 10 then 1 else 0, g) := by
  unfold f157
  rw [i64_7, i64_10, f146_eq, zbd_s, if_pos (zwi_01 _ _ _), show zwi (nI k) 7 10 = if 7 ≤ k ∧ k ≤ 10 then 1 else 0 from zwi_nat (a := 7) (b := 10) (by omega) (by omega) (by omega)]
/-- what comes behind a clause's name -/
def zRe (L : Nat → Nat) (m : Nat) (t : zTau) (c s1 : Nat) : Bool × Nat × (Nat → Nat) :=
  if c = 6 then
    (if ¬ zNm L m s1 < t 0 0 then (false, s1, fun _ => 0)
    else if ¬ zNm L m (zNx L m s1) ≤ 4 then (false, zNx L m s1, fun _ => 0)
    else if ¬ zNm L m (zNx L m (zNx L m s1)) ≤ 99 then (false, zNx L m (zNx L m s1), fun _ => 0)
    else (true, zNx L m (zNx L m (zNx L m s1)), zk1 6 (zNm L m s1) (zNm L m (zNx L m s1)) (zNm L m (zNx L m (zNx L m s1)))))
  else if (1 ≤ c ∧ c ≤ 5) ∨ (7 ≤ c ∧ c ≤ 11) then
    (if ¬ zNm L m s1 ≤ zms c then (false, s1, fun _ => 0)
    else (true, zNx L m s1, zk1 c (zNm L m s1) 0 0))
  else (true, s1, zk1 c 0 0 0)
theorem zRc_re {L : Nat → Nat} {m s : Nat} {t : zTau} : zRc L m t s = if zcw L s (zE L m s) = 16 ∨ zfull t (zcw L s (zE L m s)) then (false, s, fun _ => 0) else zRe L m t (zcw L s (zE L m s)) (zNx L m s) := rfl
theorem f158_sp {K m s r c : Nat} {L : Nat → Nat} {t : zTau} {g : zS} (hK : 200 ≤ K) (hm : m ≤ 160) (hL : ∀ i, i < m → L i ≤ 255) (B : zBd t) (S : zRS L m s g) (hr : g 222 6 = nI r) (hr13 : r ≤ 13) (hc : c < 16) (h226 : g 226 (4 * r) = nI c) (hw : g 222 25 = nI (t 0 0)) : ∃ g', f158 K (nI c) g = some (nI (zRe L m t c s).1.toNat, g') ∧ zRS L m (zRe L m t c s).2.1 g' ∧ (∀ c, c ≠ 222 → c ≠ 226 → g' c = g c) ∧ (∀ k, k ≠ 22 → k ≠ 23 → k ≠ 24 → g' 222 k = g 222 k) ∧ (∀ i, i ≤ 4 * r → g' 226 i = g 226 i) ∧ ((zRe L m t c s).1 = true → zR1 (zRe L m t c s).2.2 r g' ∧ (zRe L m t c s).2.2 0 = c) := by
  have n1 := zNx_le (L := L) S.2.1
  have n2 := zNx_le (L := L) n1
  have b1 := B.1
  unfold f158
  rw [f156_eq (by omega), zbd_s, f157_eq (by omega), zbd_s]
  unfold zRe
  -- one number
  have num : ∀ X : Nat, X ≤ 99 → (1 ≤ c ∧ c ≤ 11) → ¬ c = 6 → ∃ g', zbd (f159 K 0 0 (nI X) g) (fun r g => if r = 0 ∨ r = 1 then some (r, g) else none) = some (nI (if ¬ zNm L m s ≤ X then (false, s, fun _ => 0) else (true, zNx L m s, zk1 c (zNm L m s) 0 0) : Bool × Nat × (Nat → Nat)).1.toNat, g') ∧ zRS L m (if ¬ zNm L m s ≤ X then (false, s, fun _ => 0) else (true, zNx L m s, zk1 c (zNm L m s) 0 0) : Bool × Nat × (Nat → Nat)).2.1 g' ∧ (∀ c, c ≠ 222 → c ≠ 226 → g' c = g c) ∧ (∀ k, k ≠ 22 → k ≠ 23 → k ≠ 24 → g' 222 k = g 222 k) ∧ (∀ i, i ≤ 4 * r → g' 226 i = g 226 i) ∧ ((if ¬ zNm L m s ≤ X then (false, s, fun _ => 0) else (true, zNx L m s, zk1 c (zNm L m s) 0 0) : Bool × Nat × (Nat → Nat)).1 = true → zR1 (if ¬ zNm L m s ≤ X then (false, s, fun _ => 0) else (true, zNx L m s, zk1 c (zNm L m s) 0 0) : Bool × Nat × (Nat → Nat)).2.2 r g' ∧ (if ¬ zNm L m s ≤ X then (false, s, fun _ => 0) else (true, zNx L m s, zk1 c (zNm L m s) 0 0) : Bool × Nat × (Nat → Nat)).2.2 0 = c) := by
    intro X hX hc2 hc6
    by_cases y : zNm L m s ≤ X
    · obtain ⟨g', a1, a2, a3, a4, a5, a6⟩ := f159_n (j := 0) hK hm hL S hr (by omega) (fun z => (zNm_c (zNm_le S.2.1) hX).mp z y)
      have a1 : f159 K 0 0 (nI X) g = some (1, g') := a1
      rw [if_neg (fun z => z y), a1, zbd_s, if_pos (show (1 : Int32) = 0 ∨ (1 : Int32) = 1 from Or.inr rfl)]
      refine ⟨g', rfl, a2, a3, a4, fun i hi => a6 i (by omega), fun _ => ⟨⟨?_, fun _ => ?_, fun z => absurd z hc6⟩, rfl⟩⟩
      · rw [a6 _ (by omega)]; exact h226
      · exact a5
    · have a1 : f159 K 0 0 (nI X) g = some (0, g) := f159_no (j := 0) hK hm hL S hr (by omega) ((zNm_c (zNm_le S.2.1) hX).mpr y)
      rw [if_pos y, a1, zbd_s, if_pos (show (0 : Int32) = 0 ∨ (0 : Int32) = 1 from Or.inl rfl)]
      exact ⟨g, rfl, S, fun c _ _ => rfl, fun k _ _ _ => rfl, fun i _ => rfl, fun z => absurd z Bool.false_ne_true⟩
  by_cases q1 : 1 ≤ c ∧ c ≤ 5
  · have hz : zms c = 30 := if_pos q1.2
    rw [if_pos q1, if_neg (show ¬ (1 : Int32) = 0 by decide), if_neg (show ¬ c = 6 by omega), if_pos (Or.inl q1), hz]
    exact num 30 (by omega) (by omega) (by omega)
  rw [if_neg q1, if_pos (show (0 : Int32) = 0 from rfl)]
  unfold f158_29
  by_cases q2 : 7 ≤ c ∧ c ≤ 10
  · have hz : zms c = 20 := if_neg (by omega)
    rw [if_pos q2, if_pos (show ¬ (1 : Int32) = 0 by decide), if_neg (show ¬ c = 6 by omega), if_pos (Or.inr (by omega)), hz]
    exact num 20 (by omega) (by omega) (by omega)
  rw [if_neg q2, if_neg (show ¬ ¬ (0 : Int32) = 0 from fun z => z rfl)]
  by_cases q3 : c = 11
  · have hz : zms c = 20 := if_neg (by omega)
    rw [if_neg (show ¬ ¬ nI c = 11 from fun z => z (by rw [q3]; rfl)), if_neg (show ¬ c = 6 by omega), if_pos (Or.inr (by omega)), hz]
    exact num 20 (by omega) (by omega) (by omega)
  rw [if_pos (show ¬ nI c = 11 from fun z => q3 ((nI_eq (b := 11) (by omega) (by omega)).mp z))]
  by_cases q4 : c = 6
  · rw [if_neg (show ¬ ¬ nI c = 6 from fun z => z (by rw [q4]; rfl)), if_pos q4, hw]
    by_cases y1 : zNm L m s < t 0 0
    · obtain ⟨g1, a1, a2, a3, a4, a5, a6⟩ := f159_n (j := 0) hK hm hL S hr (by omega) (fun z => (zNm_w (zNm_le S.2.1) b1).mp z y1)
      have a1 : f159 K 0 0 (nI (t 0 0) - 1) g = some (1, g1) := a1
      have hr1 : g1 222 6 = nI r := by rw [a4 6 (by decide) (by decide) (by decide)]; exact hr
      rw [if_neg (fun z => z y1), a1, zbd_s, if_neg (show ¬ (1 : Int32) = 0 by decide)]
      by_cases y2 : zNm L m (zNx L m s) ≤ 4
      · obtain ⟨g2, d1, d2, d3, d4, d5, d6⟩ := f159_n (j := 1) (x := 4) hK hm hL a2 hr1 (by omega) (fun z => (zNm_c (X := 4) (zNm_le n1) (by omega)).mp z y2)
        have d1 : f159 K 1 0 4 g1 = some (1, g2) := d1
        have hr2 : g2 222 6 = nI r := by rw [d4 6 (by decide) (by decide) (by decide)]; exact hr1
        rw [if_neg (fun z => z y2), d1, zbd_s, if_neg (show ¬ (1 : Int32) = 0 by decide)]
        by_cases y3 : zNm L m (zNx L m (zNx L m s)) ≤ 99
        · obtain ⟨g3, e1, e2, e3, e4, e5, e6⟩ := f159_n (j := 2) (x := 99) hK hm hL d2 hr2 (by omega) (fun z => (zNm_c (X := 99) (zNm_le n2) (by omega)).mp z y3)
          have e1 : f159 K 2 0 99 g2 = some (1, g3) := e1
          rw [if_neg (fun z => z y3), e1, zbd_s, if_neg (show ¬ (1 : Int32) = 0 by decide)]
          refine ⟨g3, rfl, e2, fun c c1 c2 => by rw [e3 c c1 c2, d3 c c1 c2, a3 c c1 c2], fun k k1 k2 k3 => by rw [e4 k k1 k2 k3, d4 k k1 k2 k3, a4 k k1 k2 k3], fun i hi => by rw [e6 i (by omega), d6 i (by omega), a6 i (by omega)], fun _ => ⟨⟨?_, fun _ => ?_, fun _ => ⟨?_, e5⟩⟩, q4.symm⟩⟩
          · rw [e6 _ (by omega), d6 _ (by omega), a6 _ (by omega), h226, q4]; rfl
          · rw [e6 _ (by omega), d6 _ (by omega)]; exact a5
          · rw [e6 _ (by omega)]; exact d5
        · have e1 : f159 K 2 0 99 g2 = some (0, g2) := f159_no (j := 2) (x := 99) hK hm hL d2 hr2 (by omega) ((zNm_c (X := 99) (zNm_le n2) (by omega)).mpr y3)
          rw [if_pos y3, e1, zbd_s, if_pos rfl]
          exact ⟨g2, rfl, d2, fun c c1 c2 => by rw [d3 c c1 c2, a3 c c1 c2], fun k k1 k2 k3 => by rw [d4 k k1 k2 k3, a4 k k1 k2 k3], fun i hi => by rw [d6 i (by omega), a6 i (by omega)], fun z => absurd z Bool.false_ne_true⟩
      · have d1 : f159 K 1 0 4 g1 = some (0, g1) := f159_no (j := 1) (x := 4) hK hm hL a2 hr1 (by omega) ((zNm_c (X := 4) (zNm_le n1) (by omega)).mpr y2)
        rw [if_pos y2, d1, zbd_s, if_pos rfl]
        exact ⟨g1, rfl, a2, a3, a4, fun i hi => a6 i (by omega), fun z => absurd z Bool.false_ne_true⟩
    · have a1 : f159 K 0 0 (nI (t 0 0) - 1) g = some (0, g) := f159_no (j := 0) hK hm hL S hr (by omega) ((zNm_w (zNm_le S.2.1) b1).mpr y1)
      rw [if_pos y1, a1, zbd_s, if_pos rfl]
      exact ⟨g, rfl, S, fun c _ _ => rfl, fun k _ _ _ => rfl, fun i _ => rfl, fun z => absurd z Bool.false_ne_true⟩
  · rw [if_pos (show ¬ nI c = 6 from fun z => q4 ((nI_eq (b := 6) (by omega) (by omega)).mp z)), if_neg q4, if_neg (show ¬ ((1 ≤ c ∧ c ≤ 5) ∨ (7 ≤ c ∧ c ≤ 11)) by omega)]
    refine ⟨g, rfl, S, fun c _ _ => rfl, fun k _ _ _ => rfl, fun i _ => rfl, fun _ => ⟨⟨h226, fun z => ?_, fun z => absurd z q4⟩, rfl⟩⟩
    have z1 : 1 ≤ c := z.1
    have z2 : c ≤ 11 := z.2
    omega
/-- how many there are behind a clause -/
theorem zhr_n {t : zTau} {k : Nat → Nat} : (zhr t k) 0 0 = (if k 0 = 0 then 0 else if 1 ≤ k 0 ∧ k 0 ≤ 5 then t 0 0 + 1 else t 0 0) ∧ (zhr t k) 0 1 = (if k 0 = 0 then 0 else if 7 ≤ k 0 ∧ k 0 ≤ 10 then t 0 1 + 1 else t 0 1) ∧ (zhr t k) 0 2 = (if k 0 = 0 then 0 else if k 0 = 6 then t 0 2 + 1 else t 0 2) := by
  rcases zhr_cases (k 0) with h | h | h | h | h | h | h
  · rw [zhr_0 h, if_pos h, if_pos h, if_pos h]
    exact ⟨rfl, rfl, rfl⟩
  · rw [zhr_w h, if_neg (show ¬ k 0 = 0 by omega), if_neg (show ¬ k 0 = 0 by omega), if_neg (show ¬ k 0 = 0 by omega), if_pos h, if_neg (show ¬ (7 ≤ k 0 ∧ k 0 ≤ 10) by omega), if_neg (show ¬ k 0 = 6 by omega)]
    exact ⟨rfl, rfl, rfl⟩
  · rw [zhr_c h, if_neg (show ¬ k 0 = 0 by omega), if_neg (show ¬ k 0 = 0 by omega), if_neg (show ¬ k 0 = 0 by omega), if_neg (show ¬ (1 ≤ k 0 ∧ k 0 ≤ 5) by omega), if_neg (show ¬ (7 ≤ k 0 ∧ k 0 ≤ 10) by omega), if_pos h]
    exact ⟨rfl, rfl, rfl⟩
  · rw [zhr_p h, if_neg (show ¬ k 0 = 0 by omega), if_neg (show ¬ k 0 = 0 by omega), if_neg (show ¬ k 0 = 0 by omega), if_neg (show ¬ (1 ≤ k 0 ∧ k 0 ≤ 5) by omega), if_pos h, if_neg (show ¬ k 0 = 6 by omega)]
    exact ⟨rfl, rfl, rfl⟩
  · rw [zhr_r h, if_neg (show ¬ k 0 = 0 by omega), if_neg (show ¬ k 0 = 0 by omega), if_neg (show ¬ k 0 = 0 by omega), if_neg (show ¬ (1 ≤ k 0 ∧ k 0 ≤ 5) by omega), if_neg (show ¬ (7 ≤ k 0 ∧ k 0 ≤ 10) by omega), if_neg (show ¬ k 0 = 6 by omega)]
    exact ⟨rfl, rfl, rfl⟩
  · rw [zhr_l h, if_neg (show ¬ k 0 = 0 by omega), if_neg (show ¬ k 0 = 0 by omega), if_neg (show ¬ k 0 = 0 by omega), if_neg (show ¬ (1 ≤ k 0 ∧ k 0 ≤ 5) by omega), if_neg (show ¬ (7 ≤ k 0 ∧ k 0 ≤ 10) by omega), if_neg (show ¬ k 0 = 6 by omega)]
    exact ⟨rfl, rfl, rfl⟩
  · rw [zhr_m h, if_neg (show ¬ k 0 = 0 by omega), if_neg (show ¬ k 0 = 0 by omega), if_neg (show ¬ k 0 = 0 by omega), if_neg (show ¬ (1 ≤ k 0 ∧ k 0 ≤ 5) by omega), if_neg (show ¬ (7 ≤ k 0 ∧ k 0 ≤ 10) by omega), if_neg (show ¬ k 0 = 6 by omega)]
    exact ⟨rfl, rfl, rfl⟩
