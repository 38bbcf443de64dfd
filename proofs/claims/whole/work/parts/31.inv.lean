-- ===== what holds between the class's cells and the reference's =====
/-- the text -/
def zItx (g : zS) : Prop := ∃ m : Nat, m ≤ 160 ∧ g 1 1 = nI m ∧ g 222 4 = nI m ∧ ∀ i, i < m → g 3 i = g 225 i ∧ ∃ v : Nat, v ≤ 255 ∧ g 3 i = nI v
/-- what is told -/
def zIto (g : zS) : Prop := ∃ w p c r l : Nat, (w ≤ 10 ∧ p ≤ 4 ∧ c ≤ 6 ∧ r ≤ 20 ∧ l ≤ 7) ∧ (g 4 0 = nI w ∧ g 4 1 = nI p ∧ g 4 2 = nI c ∧ g 4 3 = nI r ∧ g 4 4 = nI l) ∧ (g 222 9 = nI w ∧ g 222 14 = nI p ∧ g 222 11 = nI c ∧ g 222 15 = nI r ∧ g 222 16 = nI l) ∧ (∀ i, i < w → g 6 i = g 227 i ∧ g 8 i = g 228 i ∧ (∃ k : Nat, k ≤ 4 ∧ g 6 i = nI k) ∧ ∃ v : Nat, v ≤ 30 ∧ g 8 i = nI v) ∧ (∀ i, i < p → g 10 i = g 230 i ∧ g 12 i = g 231 i ∧ (∃ k : Nat, k ≤ 3 ∧ g 10 i = nI k) ∧ ∃ v : Nat, v ≤ 20 ∧ g 12 i = nI v) ∧ (∀ i, i < c → g 14 i = g 229 (3 * i) ∧ g 16 i = g 229 (3 * i + 1) ∧ g 18 i = g 229 (3 * i + 2) ∧ (∃ a : Nat, a < w ∧ g 14 i = nI a) ∧ (∃ b : Nat, b ≤ 4 ∧ g 16 i = nI b) ∧ ∃ e : Nat, e ≤ 99 ∧ g 18 i = nI e)
/-- a state of the class, and a stretch of the reference's row -/
def zIst (n s o : Nat) (g : zS) : Prop := (∃ w : Nat, w ≤ 999 ∧ g s 0 = nI w) ∧ g s 0 = g 223 o ∧ (∀ i, i < 4 → g (s + 2) i = g 223 (o + 1 + i) ∧ g (s + 4) i = g 223 (o + 5 + i) ∧ g (s + 6) i = g 223 (o + 9 + i) ∧ g (s + 8) i = g 223 (o + 13 + i) ∧ ∃ h : Nat, h ≤ 60 ∧ g (s + 2) i = nI h) ∧ (∀ i, i < 40 → g (s + 10) i = g 223 (o + 17 + i) ∧ ∃ t : Nat, t ≤ 8 * n ∧ g (s + 10) i = nI t) ∧ (∀ i, i < 16 → g (s + 12) i = g 223 (o + 57 + i) ∧ ∃ t : Nat, t ≤ 999 ∧ g (s + 12) i = nI t) ∧ (∀ i, i < 4 → ¬ nI i < g 4 1 → g (s + 2) i = 0 ∧ g (s + 4) i = 0 ∧ (∀ j, j < 10 → g (s + 10) (10 * i + j) = 0) ∧ ∀ j, j < 4 → g (s + 12) (4 * i + j) = 0 ∧ g (s + 12) (4 * j + i) = 0)
/-- the past: the steps that can be undone, the states that are kept -/
def zIpa (n : Nat) (g : zS) : Prop := (∃ nw sz : Nat, nw < 8 ∧ sz ≤ 8 ∧ g 47 2 = nI nw ∧ g 47 3 = nI sz ∧ g 222 1 = nI sz ∧ ∀ t, t < sz → zIst n (50 + 13 * ((nw + 8 - t) % 8)) (219 + 73 * (sz - 1 - t)) g) ∧ ∃ b0 b1 : Bool, g 47 4 = nI (b0.toNat + 2 * b1.toNat) ∧ g 224 0 = nI b0.toNat ∧ g 224 1 = nI b1.toNat ∧ (b0 = true → zIst n 154 73 g) ∧ (b1 = true → zIst n 167 146 g)
/-- the line -/
def zIli (g : zS) : Prop := ∃ m : Nat, m ≤ 8 ∧ g 180 1 = nI m ∧ g 222 18 = nI m ∧ ∀ i, i < m → g 182 i = g 232 i ∧ (g 182 i = -1 ∨ ∃ w : Nat, w < 10 ∧ g 182 i = nI w ∧ nI w < g 4 0)
/-- the drafts -/
def zIdr (g : zS) : Prop := g 221 0 = 0 ∧ ∃ d : Nat, d ≤ 6 ∧ g 186 4 = nI d ∧ g 222 21 = nI d ∧ ∀ e, e < d → ∃ m : Nat, 0 < m ∧ m ≤ 8 ∧ g (195 + 3 * e) 1 = nI m ∧ g 234 e = nI m ∧ ∀ i, i < m → g (195 + 3 * e + 2) i = g 233 (8 * e + i) ∧ ∃ w : Nat, w < 10 ∧ g (195 + 3 * e + 2) i = nI w ∧ nI w < g 4 0
/-- all of it, after n calls -/
def zInv (n : Nat) (g : zS) : Prop := zItx g ∧ zIto g ∧ zIst n 34 0 g ∧ zIpa n g ∧ zIli g ∧ zIdr g
theorem zIst_mono {n n2 s o : Nat} {g : zS} (hn : n ≤ n2) (h : zIst n s o g) : zIst n2 s o g := by
  obtain ⟨h1, h2, h3, h4, h5, h6⟩ := h
  refine ⟨h1, h2, h3, fun i hi => ?_, h5, h6⟩
  obtain ⟨a, t, b, c⟩ := h4 i hi
  exact ⟨a, t, by omega, c⟩
theorem zIpa_mono {n n2 : Nat} {g : zS} (hn : n ≤ n2) (h : zIpa n g) : zIpa n2 g := by
  obtain ⟨⟨nw, sz, a1, a2, a3, a4, a5, a6⟩, b0, b1, c1, c2, c3, c4, c5⟩ := h
  exact ⟨⟨nw, sz, a1, a2, a3, a4, a5, fun t ht => zIst_mono hn (a6 t ht)⟩, b0, b1, c1, c2, c3, fun q => zIst_mono hn (c4 q), fun q => zIst_mono hn (c5 q)⟩
theorem zInv_mono (n : Nat) (g : zS) (h : zInv n g) : zInv (n + 1) g := by
  obtain ⟨h1, h2, h3, h4, h5, h6⟩ := h
  exact ⟨h1, h2, zIst_mono (by omega) h3, zIpa_mono (by omega) h4, h5, h6⟩
-- ===== what a part rests on =====
theorem zItx_fr {g g' : zS} (h : zItx g) (a : g' 1 1 = g 1 1) (b : g' 222 4 = g 222 4) (c : g' 3 = g 3) (d : g' 225 = g 225) : zItx g' := by
  obtain ⟨m, h1, h2, h3, h4⟩ := h
  refine ⟨m, h1, a.trans h2, b.trans h3, fun i hi => ?_⟩
  rw [c, d]
  exact h4 i hi
theorem zIto_fr {g g' : zS} (h : zIto g) (a : ∀ k, k < 5 → g' 4 k = g 4 k) (b : g' 222 9 = g 222 9 ∧ g' 222 14 = g 222 14 ∧ g' 222 11 = g 222 11 ∧ g' 222 15 = g 222 15 ∧ g' 222 16 = g 222 16) (c : g' 6 = g 6 ∧ g' 8 = g 8 ∧ g' 10 = g 10 ∧ g' 12 = g 12 ∧ g' 14 = g 14 ∧ g' 16 = g 16 ∧ g' 18 = g 18) (d : g' 227 = g 227 ∧ g' 228 = g 228 ∧ g' 229 = g 229 ∧ g' 230 = g 230 ∧ g' 231 = g 231) : zIto g' := by
  obtain ⟨w, p, ch, r, l, h0, h1, h2, h3, h4, h5⟩ := h
  obtain ⟨b1, b2, b3, b4, b5⟩ := b
  obtain ⟨c1, c2, c3, c4, c5, c6, c7⟩ := c
  obtain ⟨d1, d2, d3, d4, d5⟩ := d
  refine ⟨w, p, ch, r, l, h0, ?_, ?_, ?_, ?_, ?_⟩
  · rw [a 0 (by decide), a 1 (by decide), a 2 (by decide), a 3 (by decide), a 4 (by decide)]
    exact h1
  · rw [b1, b2, b3, b4, b5]
    exact h2
  · rw [c1, c2, d1, d2]
    exact h3
  · rw [c3, c4, d4, d5]
    exact h4
  · rw [c5, c6, c7, d3]
    exact h5
theorem zIst_fr {n s o : Nat} {g g' : zS} (h : zIst n s o g) (a : g' s 0 = g s 0) (b : ∀ i, i < 73 → g' 223 (o + i) = g 223 (o + i)) (c : g' (s + 2) = g (s + 2) ∧ g' (s + 4) = g (s + 4) ∧ g' (s + 6) = g (s + 6) ∧ g' (s + 8) = g (s + 8) ∧ g' (s + 10) = g (s + 10) ∧ g' (s + 12) = g (s + 12)) (e : g' 4 1 = g 4 1) : zIst n s o g' := by
  obtain ⟨h1, h2, h3, h4, h5, h6⟩ := h
  obtain ⟨c1, c2, c3, c4, c5, c6⟩ := c
  unfold zIst
  rw [a, c1, c2, c3, c4, c5, c6, e]
  refine ⟨h1, ?_, fun i hi => ?_, fun i hi => ?_, fun i hi => ?_, h6⟩
  · have := b 0 (by omega)
    rw [Nat.add_zero] at this
    rw [this]
    exact h2
  · have e1 := b (1 + i) (by omega)
    have e2 := b (5 + i) (by omega)
    have e3 := b (9 + i) (by omega)
    have e4 := b (13 + i) (by omega)
    rw [← Nat.add_assoc] at e1 e2 e3 e4
    rw [e1, e2, e3, e4]
    exact h3 i hi
  · have e1 := b (17 + i) (by omega)
    rw [← Nat.add_assoc] at e1
    rw [e1]
    exact h4 i hi
  · have e1 := b (57 + i) (by omega)
    rw [← Nat.add_assoc] at e1
    rw [e1]
    exact h5 i hi
theorem zIli_fr {g g' : zS} (h : zIli g) (a : g' 180 1 = g 180 1) (b : g' 222 18 = g 222 18) (c : g' 182 = g 182) (d : g' 232 = g 232) (e : g' 4 0 = g 4 0) : zIli g' := by
  obtain ⟨m, h1, h2, h3, h4⟩ := h
  refine ⟨m, h1, a.trans h2, b.trans h3, fun i hi => ?_⟩
  rw [c, d, e]
  exact h4 i hi
theorem zIdr_fr {g g' : zS} (h : zIdr g) (a : g' 186 4 = g 186 4) (b : g' 222 21 = g 222 21) (c : ∀ e, e < 6 → g' (195 + 3 * e) 1 = g (195 + 3 * e) 1 ∧ g' (195 + 3 * e + 2) = g (195 + 3 * e + 2)) (d : g' 233 = g 233) (d2 : g' 234 = g 234) (e : g' 4 0 = g 4 0) (f : g' 221 0 = g 221 0 := by rfl) : zIdr g' := by
  obtain ⟨h0, m, h1, h2, h3, h4⟩ := h
  refine ⟨f.trans h0, m, h1, a.trans h2, b.trans h3, fun q hq => ?_⟩
  obtain ⟨c1, c2⟩ := c q (by omega)
  rw [c1, c2, d, d2, e]
  exact h4 q hq
/-- the past rests on the cells 47 to 179, on 223 behind its first 73, on 224, and on one slot -/
theorem zIpa_fr {n : Nat} {g g' : zS} (h : zIpa n g) (a : ∀ c, 47 ≤ c → c < 180 → g' c = g c) (b : g' 222 1 = g 222 1) (c : ∀ i, 73 ≤ i → g' 223 i = g 223 i) (d : g' 224 = g 224) (e : g' 4 1 = g 4 1) : zIpa n g' := by
  have key : ∀ s o, 50 ≤ s → s + 12 < 180 → 73 ≤ o → zIst n s o g → zIst n s o g' := fun s o h1 h2 h3 h4 => zIst_fr h4 (by rw [a s (by omega) (by omega)]) (fun i _ => c _ (by omega)) ⟨a _ (by omega) (by omega), a _ (by omega) (by omega), a _ (by omega) (by omega), a _ (by omega) (by omega), a _ (by omega) (by omega), a _ (by omega) (by omega)⟩ e
  obtain ⟨⟨nw, sz, a1, a2, a3, a4, a5, a6⟩, b0, b1, c1, c2, c3, c4, c5⟩ := h
  have e47 := a 47 (by omega) (by omega)
  refine ⟨⟨nw, sz, a1, a2, ?_, ?_, b.trans a5, fun t ht => key _ _ (by omega) (by omega) (by omega) (a6 t ht)⟩, b0, b1, ?_, ?_, ?_, fun q => key _ _ (by omega) (by omega) (by omega) (c4 q), fun q => key _ _ (by omega) (by omega) (by omega) (c5 q)⟩
  · rw [e47]; exact a3
  · rw [e47]; exact a4
  · rw [e47]; exact c1
  · rw [d]; exact c2
  · rw [d]; exact c3
-- ===== at the start =====
theorem zg0_0 {c k : Nat} (h : ¬ ((c = 4 ∧ k = 3) ∨ (c = 19 ∧ k = 3) ∨ (c = 222 ∧ k = 15))) : zg0 c k = 0 := if_neg h
theorem zInv_0 : zInv 0 zg0 := by
  refine ⟨⟨0, by omega, rfl, rfl, fun i hi => by omega⟩, ⟨0, 0, 0, 9, 0, by omega, ⟨rfl, rfl, rfl, rfl, rfl⟩, ⟨rfl, rfl, rfl, rfl, rfl⟩, fun i hi => by omega, fun i hi => by omega, fun i hi => by omega⟩, ?_, ⟨⟨0, 0, by omega, by omega, rfl, rfl, rfl, fun t ht => by omega⟩, false, false, rfl, rfl, rfl, fun q => (by cases q), fun q => (by cases q)⟩, ⟨0, by omega, rfl, rfl, fun i hi => by omega⟩, ⟨rfl, 0, by omega, rfl, rfl, fun i hi => by omega⟩⟩
  refine ⟨⟨0, by omega, rfl⟩, rfl, fun i _ => ?_, fun i _ => ?_, fun i _ => ?_, fun i _ _ => ?_⟩
  · rw [zg0_0 (by omega), zg0_0 (by omega), zg0_0 (by omega), zg0_0 (by omega), zg0_0 (by omega), zg0_0 (by omega), zg0_0 (by omega), zg0_0 (by omega)]
    exact ⟨rfl, rfl, rfl, rfl, 0, by omega, rfl⟩
  · rw [zg0_0 (by omega), zg0_0 (by omega)]
    exact ⟨rfl, 0, by omega, rfl⟩
  · rw [zg0_0 (by omega), zg0_0 (by omega)]
    exact ⟨rfl, 0, by omega, rfl⟩
  · rw [zg0_0 (by omega), zg0_0 (by omega)]
    refine ⟨rfl, rfl, fun j _ => ?_, fun j _ => ?_⟩
    · rw [zg0_0 (by omega)]
    · rw [zg0_0 (by omega), zg0_0 (by omega)]
      exact ⟨rfl, rfl⟩
