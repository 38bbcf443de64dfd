-- ===== runs that come to their end, and what holds then =====
def zR {α : Type} (o : Option (α × zS)) (Q : α → zS → Prop) : Prop := ∃ a g, o = some (a, g) ∧ Q a g
theorem zR_ret {α : Type} {a : α} {g : zS} {Q : α → zS → Prop} (h : Q a g) : zR (some (a, g)) Q := ⟨a, g, rfl, h⟩
theorem zR_eq {α : Type} {o : Option (α × zS)} {a : α} {g : zS} {Q : α → zS → Prop} (e : o = some (a, g)) (h : Q a g) : zR o Q := ⟨a, g, e, h⟩
theorem zR_bd {α β : Type} {o : Option (α × zS)} {k : α → zS → Option (β × zS)} {P : α → zS → Prop} {Q : β → zS → Prop} (h : zR o P) (hk : ∀ a g, P a g → zR (k a g) Q) : zR (zbd o k) Q := by
  obtain ⟨a, g, rfl, h2⟩ := h
  exact hk a g h2
theorem zR_mono {α : Type} {o : Option (α × zS)} {P Q : α → zS → Prop} (h : zR o P) (hk : ∀ a g, P a g → Q a g) : zR o Q := by
  obtain ⟨a, g, h1, h2⟩ := h
  exact ⟨a, g, h1, hk a g h2⟩
theorem zR_if {α : Type} {c : Prop} [Decidable c] {t e : Option (α × zS)} {Q : α → zS → Prop} (h1 : c → zR t Q) (h2 : ¬ c → zR e Q) : zR (if c then t else e) Q := by
  by_cases h : c
  · rw [if_pos h]; exact h1 h
  · rw [if_neg h]; exact h2 h
theorem zR_pos {α : Type} {c : Prop} [Decidable c] {t e : Option (α × zS)} {Q : α → zS → Prop} (h : c) (h1 : zR t Q) : zR (if c then t else e) Q := by rw [if_pos h]; exact h1
theorem zR_neg {α : Type} {c : Prop} [Decidable c] {t e : Option (α × zS)} {Q : α → zS → Prop} (h : ¬ c) (h1 : zR e Q) : zR (if c then t else e) Q := by rw [if_neg h]; exact h1
theorem zR_rw {α : Type} {o o' : Option (α × zS)} {Q : α → zS → Prop} (e : o = o') (h : zR o' Q) : zR o Q := by rw [e]; exact h
-- ===== places of states =====
theorem zel48 : ∀ i, i < 8 → zel 48 i = 50 + 13 * i
  | 0, _ => by decide +kernel
  | 1, _ => by decide +kernel
  | 2, _ => by decide +kernel
  | 3, _ => by decide +kernel
  | 4, _ => by decide +kernel
  | 5, _ => by decide +kernel
  | 6, _ => by decide +kernel
  | 7, _ => by decide +kernel
  | n + 8, h => by omega
theorem zel49 : ∀ i, i < 2 → zel 49 i = 154 + 13 * i
  | 0, _ => by decide +kernel
  | 1, _ => by decide +kernel
  | n + 2, h => by omega
theorem zLens_u : ∀ i, i < 8 → zLens (50 + 13 * i)
  | 0, _ => ⟨by decide +kernel, by decide +kernel, by decide +kernel, by decide +kernel, by decide +kernel, by decide +kernel⟩
  | 1, _ => ⟨by decide +kernel, by decide +kernel, by decide +kernel, by decide +kernel, by decide +kernel, by decide +kernel⟩
  | 2, _ => ⟨by decide +kernel, by decide +kernel, by decide +kernel, by decide +kernel, by decide +kernel, by decide +kernel⟩
  | 3, _ => ⟨by decide +kernel, by decide +kernel, by decide +kernel, by decide +kernel, by decide +kernel, by decide +kernel⟩
  | 4, _ => ⟨by decide +kernel, by decide +kernel, by decide +kernel, by decide +kernel, by decide +kernel, by decide +kernel⟩
  | 5, _ => ⟨by decide +kernel, by decide +kernel, by decide +kernel, by decide +kernel, by decide +kernel, by decide +kernel⟩
  | 6, _ => ⟨by decide +kernel, by decide +kernel, by decide +kernel, by decide +kernel, by decide +kernel, by decide +kernel⟩
  | 7, _ => ⟨by decide +kernel, by decide +kernel, by decide +kernel, by decide +kernel, by decide +kernel, by decide +kernel⟩
  | n + 8, h => by omega
theorem zLens_k : ∀ i, i < 2 → zLens (154 + 13 * i)
  | 0, _ => ⟨by decide +kernel, by decide +kernel, by decide +kernel, by decide +kernel, by decide +kernel, by decide +kernel⟩
  | 1, _ => ⟨by decide +kernel, by decide +kernel, by decide +kernel, by decide +kernel, by decide +kernel, by decide +kernel⟩
  | n + 2, h => by omega
theorem zLens_n : zLens 34 := ⟨by decide +kernel, by decide +kernel, by decide +kernel, by decide +kernel, by decide +kernel, by decide +kernel⟩
theorem zl48 : zlen 48 = 8 := by decide +kernel
theorem zl49 : zlen 49 = 2 := by decide +kernel
theorem f79_eq {K o i N : Nat} {g : zS} (hz : zlen o = N) (hN : N < 2 ^ 31) (h : i < N) : f79 K o (nI i) g = some (some (zel o i), g) := by
  unfold f79
  rw [hz, if_neg (nI_pos (by omega)), if_neg (nI_ge h hN), if_pos (zin_i h hN), nI_clamp (by omega)]
