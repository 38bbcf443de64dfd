-- ===== copies of states =====
theorem f18_lp {K o0 o1 N : Nat} (h0 : zlen (o0 + 1) = N) (h1 : zlen (o1 + 1) = N) (hN : N < 2 ^ 31) (ho : o0 ≠ o1) : ∀ d i n g, i + d = N → d < n → ∃ g', f18_2 K n o0 o1 (nI i) g = some ((), g') ∧ (∀ c, c ≠ o0 + 1 → g' c = g c) ∧ (∀ k, i ≤ k → k < N → g' (o0 + 1) k = g (o1 + 1) k) ∧ ∀ k, k < i → g' (o0 + 1) k = g (o0 + 1) k := by
  intro d
  induction d with
  | zero =>
    intro i n g h2 h3
    obtain ⟨n, rfl⟩ : ∃ q, n = q + 1 := ⟨n - 1, by omega⟩
    refine ⟨g, ?_, fun c _ => rfl, fun k k1 k2 => by omega, fun k _ => rfl⟩
    rw [f18_2, h0, if_pos (nI_le (by omega) (by omega))]
  | succ d ih =>
    intro i n g h2 h3
    obtain ⟨n, rfl⟩ : ∃ q, n = q + 1 := ⟨n - 1, by omega⟩
    obtain ⟨g', e1, e2, e3, e4⟩ := ih (i + 1) n (zup g (o0 + 1) i (g (o1 + 1) i)) (by omega) (by omega)
    refine ⟨g', ?_, fun c hc => ?_, fun k k1 k2 => ?_, fun k hk => ?_⟩
    · rw [f18_2, h0, h1, if_neg (nI_ge (by omega) hN), if_neg (nI_ge (by omega) hN), if_pos (zin_i (by omega) hN), if_pos (zin_i (by omega) hN), nI_clamp (by omega), nI_1, e1]
    · rw [e2 c hc, zup_c hc]
    · by_cases hki : k = i
      · rw [hki, e4 i (by omega), zup_s]
      · rw [e3 k (by omega) k2, zup_c (by omega)]
    · rw [e4 k (by omega), zup_k (by omega)]
theorem f18_sp {K o0 o1 N : Nat} {g : zS} (h0 : zlen (o0 + 1) = N) (h1 : zlen (o1 + 1) = N) (hN : N < 2 ^ 31) (hK : N < K) (ho : o0 ≠ o1) : ∃ g', f18 K o0 o1 g = some ((), g') ∧ (∀ c, c ≠ o0 + 1 → g' c = g c) ∧ ∀ k, k < N → g' (o0 + 1) k = g (o1 + 1) k := by
  obtain ⟨g', e1, e2, e3, e4⟩ := f18_lp (K := K) h0 h1 hN ho N 0 K g (by omega) hK
  exact ⟨g', e1, e2, fun k hk => e3 k (by omega) hk⟩
/-- the state at s in g' is the state at t in g -/
def zSame (s t : Nat) (g' g : zS) : Prop := g' s 0 = g t 0 ∧ (∀ k, k < 4 → g' (s + 2) k = g (t + 2) k ∧ g' (s + 4) k = g (t + 4) k ∧ g' (s + 6) k = g (t + 6) k ∧ g' (s + 8) k = g (t + 8) k) ∧ (∀ k, k < 40 → g' (s + 10) k = g (t + 10) k) ∧ ∀ k, k < 16 → g' (s + 12) k = g (t + 12) k
def zLens (s : Nat) : Prop := zlen (s + 1 + 1) = 4 ∧ zlen (s + 3 + 1) = 4 ∧ zlen (s + 5 + 1) = 4 ∧ zlen (s + 7 + 1) = 4 ∧ zlen (s + 9 + 1) = 40 ∧ zlen (s + 11 + 1) = 16
theorem f80_sp {K s t : Nat} {g : zS} (hK : 40 < K) (hs : zLens s) (ht : zLens t) (hd : s + 13 ≤ t ∨ t + 13 ≤ s) : ∃ g', f80 K s t g = some ((), g') ∧ (∀ c, c < s ∨ s + 12 < c → g' c = g c) ∧ zSame s t g' g := by
  obtain ⟨a1, a2, a3, a4, a5, a6⟩ := hs
  obtain ⟨b1, b2, b3, b4, b5, b6⟩ := ht
  obtain ⟨g1, x1, y1, z1⟩ := f18_sp (K := K) (g := zup g s 0 (g t 0)) a1 b1 (by decide) (by omega) (by omega)
  obtain ⟨g2, x2, y2, z2⟩ := f18_sp (K := K) (g := g1) a2 b2 (by decide) (by omega) (by omega)
  obtain ⟨g3, x3, y3, z3⟩ := f18_sp (K := K) (g := g2) a3 b3 (by decide) (by omega) (by omega)
  obtain ⟨g4, x4, y4, z4⟩ := f18_sp (K := K) (g := g3) a4 b4 (by decide) (by omega) (by omega)
  obtain ⟨g5, x5, y5, z5⟩ := f18_sp (K := K) (g := g4) a5 b5 (by decide) (by omega) (by omega)
  obtain ⟨g6, x6, y6, z6⟩ := f18_sp (K := K) (g := g5) a6 b6 (by decide) (by omega) (by omega)
  refine ⟨g6, ?_, fun c hc => ?_, ?_, fun k hk => ⟨?_, ?_, ?_, ?_⟩, fun k hk => ?_, fun k hk => ?_⟩
  · unfold f80
    rw [x1, zbd_s, x2, zbd_s, x3, zbd_s, x4, zbd_s, x5, zbd_s, x6, zbd_s]
  · rw [y6 c (by omega), y5 c (by omega), y4 c (by omega), y3 c (by omega), y2 c (by omega), y1 c (by omega), zup_c (by omega)]
  · rw [y6 s (by omega), y5 s (by omega), y4 s (by omega), y3 s (by omega), y2 s (by omega), y1 s (by omega), zup_s]
  · rw [y6 _ (by omega), y5 _ (by omega), y4 _ (by omega), y3 _ (by omega), y2 _ (by omega)]
    exact (z1 k hk).trans (by rw [zup_c (by omega)])
  · rw [y6 _ (by omega), y5 _ (by omega), y4 _ (by omega), y3 _ (by omega)]
    exact (z2 k hk).trans (by rw [y1 _ (by omega), zup_c (by omega)])
  · rw [y6 _ (by omega), y5 _ (by omega), y4 _ (by omega)]
    exact (z3 k hk).trans (by rw [y2 _ (by omega), y1 _ (by omega), zup_c (by omega)])
  · rw [y6 _ (by omega), y5 _ (by omega)]
    exact (z4 k hk).trans (by rw [y3 _ (by omega), y2 _ (by omega), y1 _ (by omega), zup_c (by omega)])
  · rw [y6 _ (by omega)]
    exact (z5 k hk).trans (by rw [y4 _ (by omega), y3 _ (by omega), y2 _ (by omega), y1 _ (by omega), zup_c (by omega)])
  · exact (z6 k hk).trans (by rw [y5 _ (by omega), y4 _ (by omega), y3 _ (by omega), y2 _ (by omega), y1 _ (by omega), zup_c (by omega)])
theorem f189_lp {K a b : Nat} (ha : a + 73 ≤ 803) (hb : b + 73 ≤ 803) (hd : a + 73 ≤ b ∨ b + 73 ≤ a) : ∀ d i n g, i + d = 73 → d < n → ∃ g', f189_2 K n (nI a) (nI b) (nI i) g = some ((), g') ∧ (∀ c, c ≠ 223 → g' c = g c) ∧ (∀ k, i ≤ k → k < 73 → g' 223 (b + k) = g 223 (a + k)) ∧ ∀ k, k < b + i ∨ b + 73 ≤ k → g' 223 k = g 223 k := by
  intro d
  induction d with
  | zero =>
    intro i n g h2 h3
    obtain ⟨n, rfl⟩ : ∃ q, n = q + 1 := ⟨n - 1, by omega⟩
    refine ⟨g, ?_, fun c _ => rfl, fun k k1 k2 => by omega, fun k _ => rfl⟩
    rw [f189_2, show (73 : Int32) = nI 73 from rfl, if_pos (nI_le (by omega) (by omega))]
  | succ d ih =>
    intro i n g h2 h3
    obtain ⟨n, rfl⟩ : ∃ q, n = q + 1 := ⟨n - 1, by omega⟩
    obtain ⟨g', e1, e2, e3, e4⟩ := ih (i + 1) n (zup g 223 (b + i) (g 223 (a + i))) (by omega) (by omega)
    refine ⟨g', ?_, fun c hc => ?_, fun k k1 k2 => ?_, fun k hk => ?_⟩
    · rw [f189_2, show (73 : Int32) = nI 73 from rfl, if_neg (nI_ge (by omega) (by omega)), nI_add, nI_add, if_pos (zin_i (by omega) (by decide)), if_pos (zin_i (by omega) (by decide)), nI_clamp (by omega), nI_clamp (by omega), nI_1, e1]
    · rw [e2 c hc, zup_c hc]
    · by_cases hki : k = i
      · rw [hki, e4 (b + i) (by omega), zup_s]
      · rw [e3 k (by omega) k2, zup_k (by omega)]
    · rw [e4 k (by omega), zup_k (by omega)]
theorem f189_sp {K a b : Nat} {g : zS} (hK : 73 < K) (ha : a + 73 ≤ 803) (hb : b + 73 ≤ 803) (hd : a + 73 ≤ b ∨ b + 73 ≤ a) : ∃ g', f189 K (nI a) (nI b) g = some ((), g') ∧ (∀ c, c ≠ 223 → g' c = g c) ∧ (∀ k, k < 73 → g' 223 (b + k) = g 223 (a + k)) ∧ ∀ k, k < b ∨ b + 73 ≤ k → g' 223 k = g 223 k := by
  obtain ⟨g', e1, e2, e3, e4⟩ := f189_lp (K := K) ha hb hd 73 0 K g (by omega) hK
  exact ⟨g', e1, e2, fun k hk => e3 k (by omega) hk, fun k hk => e4 k (by omega)⟩
/-- both copy: the copy's relation -/
theorem zIst_copy {n s t o o2 : Nat} {g g' : zS} (h : zIst n t o g) (hs : zSame s t g' g) (hr : ∀ k, k < 73 → g' 223 (o2 + k) = g 223 (o + k)) (hp : g' 4 1 = g 4 1) : zIst n s o2 g' := by
  obtain ⟨h1, h2, h3, h4, h5, h6⟩ := h
  obtain ⟨q1, q2, q3, q4⟩ := hs
  refine ⟨by rw [q1]; exact h1, ?_, fun i hi => ?_, fun i hi => ?_, fun i hi => ?_, fun i hi hp2 => ?_⟩
  · have := hr 0 (by omega)
    rw [Nat.add_zero, Nat.add_zero] at this
    rw [q1, this, h2]
  · obtain ⟨a1, a2, a3, a4⟩ := q2 i hi
    have e1 := hr (1 + i) (by omega)
    have e2 := hr (5 + i) (by omega)
    have e3 := hr (9 + i) (by omega)
    have e4 := hr (13 + i) (by omega)
    rw [← Nat.add_assoc, ← Nat.add_assoc] at e1 e2 e3 e4
    rw [a1, a2, a3, a4, e1, e2, e3, e4]
    exact h3 i hi
  · have e1 := hr (17 + i) (by omega)
    rw [← Nat.add_assoc, ← Nat.add_assoc] at e1
    rw [q3 i hi, e1]
    exact h4 i hi
  · have e1 := hr (57 + i) (by omega)
    rw [← Nat.add_assoc, ← Nat.add_assoc] at e1
    rw [q4 i hi, e1]
    exact h5 i hi
  · obtain ⟨u1, u2, u3, u4⟩ := h6 i hi (by rw [← hp]; exact hp2)
    obtain ⟨a1, a2, -, -⟩ := q2 i hi
    refine ⟨a1.trans u1, a2.trans u2, fun j hj => ?_, fun j hj => ?_⟩
    · rw [q3 _ (by omega)]
      exact u3 j hj
    · rw [q4 _ (by omega), q4 _ (by omega)]
      exact u4 j hj
