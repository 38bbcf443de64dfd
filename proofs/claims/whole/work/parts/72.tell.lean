-- ===== what is told, as numbers =====
abbrev zTau : Type := Nat → Nat → Nat
def zTs (t : zTau) (a i v : Nat) : zTau := fun b j => if b = a ∧ j = i then v else t b j
theorem zTs_s {t : zTau} {a i v : Nat} : zTs t a i v a i = v := if_pos ⟨rfl, rfl⟩
theorem zTs_o {t : zTau} {a i v b j : Nat} (h : ¬ (b = a ∧ j = i)) : zTs t a i v b j = t b j := if_neg h
/-- a clause is done -/
def zhr (t : zTau) (k : Nat → Nat) : zTau :=
  if k 0 = 0 then zTs (zTs (zTs (zTs (zTs t 0 0 0) 0 1 0) 0 2 0) 0 3 9) 0 4 0
  else if k 0 ≤ 5 then zTs (zTs (zTs t 1 (t 0 0) (k 0 - 1)) 2 (t 0 0) (k 1)) 0 0 (t 0 0 + 1)
  else if k 0 = 6 then zTs (zTs (zTs (zTs t 5 (t 0 2) (k 1)) 6 (t 0 2) (k 2)) 7 (t 0 2) (k 3)) 0 2 (t 0 2 + 1)
  else if k 0 ≤ 10 then zTs (zTs (zTs t 3 (t 0 1) (k 0 - 7)) 4 (t 0 1) (k 1)) 0 1 (t 0 1 + 1)
  else if k 0 = 11 then zTs t 0 3 (k 1)
  else if k 0 ≤ 14 then zTs t 0 4 (t 0 4 ||| 2 ^ (k 0 - 12))
  else zTs t 0 4 0
/-- bounds -/
def zBd (t : zTau) : Prop := t 0 0 ≤ 10 ∧ t 0 1 ≤ 4 ∧ t 0 2 ≤ 6 ∧ t 0 3 ≤ 20 ∧ t 0 4 ≤ 7 ∧ (∀ i, i < t 0 0 → t 1 i ≤ 4 ∧ t 2 i ≤ 30) ∧ (∀ i, i < t 0 1 → t 3 i ≤ 3 ∧ t 4 i ≤ 20) ∧ ∀ i, i < t 0 2 → t 5 i < t 0 0 ∧ t 6 i ≤ 4 ∧ t 7 i ≤ 99
/-- a clause that can stand -/
def zVc (t : zTau) (k : Nat → Nat) : Prop := k 0 ≤ 15 ∧ (1 ≤ k 0 → k 0 ≤ 5 → t 0 0 < 10 ∧ k 1 ≤ 30) ∧ (7 ≤ k 0 → k 0 ≤ 10 → t 0 1 < 4 ∧ k 1 ≤ 20) ∧ (k 0 = 6 → t 0 2 < 6 ∧ k 1 < t 0 0 ∧ k 2 ≤ 4 ∧ k 3 ≤ 99) ∧ (k 0 = 11 → k 1 ≤ 20)
/-- the class tells t at o; the reference tells t -/
def zCl (o : Nat) (t : zTau) (g : zS) : Prop := (g o 0 = nI (t 0 0) ∧ g o 1 = nI (t 0 1) ∧ g o 2 = nI (t 0 2) ∧ g o 3 = nI (t 0 3) ∧ g o 4 = nI (t 0 4)) ∧ (∀ i, i < t 0 0 → g (o + 2) i = nI (t 1 i) ∧ g (o + 4) i = nI (t 2 i)) ∧ (∀ i, i < t 0 1 → g (o + 6) i = nI (t 3 i) ∧ g (o + 8) i = nI (t 4 i)) ∧ ∀ i, i < t 0 2 → g (o + 10) i = nI (t 5 i) ∧ g (o + 12) i = nI (t 6 i) ∧ g (o + 14) i = nI (t 7 i)
def zRf (t : zTau) (g : zS) : Prop := (g 222 9 = nI (t 0 0) ∧ g 222 14 = nI (t 0 1) ∧ g 222 11 = nI (t 0 2) ∧ g 222 15 = nI (t 0 3) ∧ g 222 16 = nI (t 0 4)) ∧ (∀ i, i < t 0 0 → g 227 i = nI (t 1 i) ∧ g 228 i = nI (t 2 i)) ∧ (∀ i, i < t 0 1 → g 230 i = nI (t 3 i) ∧ g 231 i = nI (t 4 i)) ∧ ∀ i, i < t 0 2 → g 229 (3 * i) = nI (t 5 i) ∧ g 229 (3 * i + 1) = nI (t 6 i) ∧ g 229 (3 * i + 2) = nI (t 7 i)
theorem zor7 : ∀ a, a < 8 → ∀ j, j < 3 → a ||| 2 ^ j < 8 := by decide +kernel
-- the seven ways, one by one
theorem zhr_0 {t : zTau} {k : Nat → Nat} (h : k 0 = 0) : zhr t k = zTs (zTs (zTs (zTs (zTs t 0 0 0) 0 1 0) 0 2 0) 0 3 9) 0 4 0 := if_pos h
theorem zhr_w {t : zTau} {k : Nat → Nat} (h : 1 ≤ k 0 ∧ k 0 ≤ 5) : zhr t k = zTs (zTs (zTs t 1 (t 0 0) (k 0 - 1)) 2 (t 0 0) (k 1)) 0 0 (t 0 0 + 1) := by
  unfold zhr
  rw [if_neg (by omega), if_pos h.2]
theorem zhr_c {t : zTau} {k : Nat → Nat} (h : k 0 = 6) : zhr t k = zTs (zTs (zTs (zTs t 5 (t 0 2) (k 1)) 6 (t 0 2) (k 2)) 7 (t 0 2) (k 3)) 0 2 (t 0 2 + 1) := by
  unfold zhr
  rw [if_neg (by omega), if_neg (by omega), if_pos h]
theorem zhr_p {t : zTau} {k : Nat → Nat} (h : 7 ≤ k 0 ∧ k 0 ≤ 10) : zhr t k = zTs (zTs (zTs t 3 (t 0 1) (k 0 - 7)) 4 (t 0 1) (k 1)) 0 1 (t 0 1 + 1) := by
  unfold zhr
  rw [if_neg (by omega), if_neg (by omega), if_neg (by omega), if_pos h.2]
theorem zhr_r {t : zTau} {k : Nat → Nat} (h : k 0 = 11) : zhr t k = zTs t 0 3 (k 1) := by
  unfold zhr
  rw [if_neg (by omega), if_neg (by omega), if_neg (by omega), if_neg (by omega), if_pos h]
theorem zhr_l {t : zTau} {k : Nat → Nat} (h : 12 ≤ k 0 ∧ k 0 ≤ 14) : zhr t k = zTs t 0 4 (t 0 4 ||| 2 ^ (k 0 - 12)) := by
  unfold zhr
  rw [if_neg (by omega), if_neg (by omega), if_neg (by omega), if_neg (by omega), if_neg (by omega), if_pos h.2]
theorem zhr_m {t : zTau} {k : Nat → Nat} (h : 15 ≤ k 0) : zhr t k = zTs t 0 4 0 := by
  unfold zhr
  rw [if_neg (by omega), if_neg (by omega), if_neg (by omega), if_neg (by omega), if_neg (by omega), if_neg (by omega)]
theorem zhr_cases (k0 : Nat) : k0 = 0 ∨ (1 ≤ k0 ∧ k0 ≤ 5) ∨ k0 = 6 ∨ (7 ≤ k0 ∧ k0 ≤ 10) ∨ k0 = 11 ∨ (12 ≤ k0 ∧ k0 ≤ 14) ∨ 15 ≤ k0 := by omega
theorem zhr_bd {t : zTau} {k : Nat → Nat} (B : zBd t) (V : zVc t k) : zBd (zhr t k) := by
  obtain ⟨b1, b2, b3, b4, b5, b6, b7, b8⟩ := B
  obtain ⟨v0, v1, v2, v3, v4⟩ := V
  rcases zhr_cases (k 0) with h | h | h | h | h | h | h
  · rw [zhr_0 h]
    unfold zBd zTs
    refine ⟨by simp, by simp, by simp, by simp, by simp, fun i hi => ?_, fun i hi => ?_, fun i hi => ?_⟩ <;> simp at hi
  · obtain ⟨x1, x2⟩ := v1 h.1 h.2
    rw [zhr_w h]
    refine ⟨?_, ?_, ?_, ?_, ?_, fun i hi => ?_, fun i hi => ?_, fun i hi => ?_⟩
    · rw [zTs_s]; omega
    · rw [zTs_o (by omega), zTs_o (by omega), zTs_o (by omega)]; exact b2
    · rw [zTs_o (by omega), zTs_o (by omega), zTs_o (by omega)]; exact b3
    · rw [zTs_o (by omega), zTs_o (by omega), zTs_o (by omega)]; exact b4
    · rw [zTs_o (by omega), zTs_o (by omega), zTs_o (by omega)]; exact b5
    · rw [zTs_s] at hi
      by_cases q : i = t 0 0
      · rw [q, zTs_o (by omega), zTs_o (by omega), zTs_s, zTs_o (by omega), zTs_s]
        omega
      · rw [zTs_o (by omega), zTs_o (by omega), zTs_o (by omega), zTs_o (by omega), zTs_o (by omega), zTs_o (by omega)]
        exact b6 i (by omega)
    · rw [zTs_o (by omega), zTs_o (by omega), zTs_o (by omega)] at hi
      rw [zTs_o (by omega), zTs_o (by omega), zTs_o (by omega), zTs_o (by omega), zTs_o (by omega), zTs_o (by omega)]
      exact b7 i hi
    · rw [zTs_o (by omega), zTs_o (by omega), zTs_o (by omega)] at hi
      rw [zTs_o (b := 5) (by omega), zTs_o (b := 5) (by omega), zTs_o (b := 5) (by omega), zTs_o (b := 6) (by omega), zTs_o (b := 6) (by omega), zTs_o (b := 6) (by omega), zTs_o (b := 7) (by omega), zTs_o (b := 7) (by omega), zTs_o (b := 7) (by omega), zTs_s]
      have := b8 i hi
      omega
  · obtain ⟨x1, x2, x3, x4⟩ := v3 h
    rw [zhr_c h]
    have o : ∀ b j, b ≤ 4 → ¬ (b = 0 ∧ j = 2) → zTs (zTs (zTs (zTs t 5 (t 0 2) (k 1)) 6 (t 0 2) (k 2)) 7 (t 0 2) (k 3)) 0 2 (t 0 2 + 1) b j = t b j := fun b j h1 h2 => by rw [zTs_o (by omega), zTs_o (by omega), zTs_o (by omega), zTs_o (by omega)]
    refine ⟨by rw [o _ _ (by omega) (by omega)]; exact b1, by rw [o _ _ (by omega) (by omega)]; exact b2, by rw [zTs_s]; omega, by rw [o _ _ (by omega) (by omega)]; exact b4, by rw [o _ _ (by omega) (by omega)]; exact b5, fun i hi => ?_, fun i hi => ?_, fun i hi => ?_⟩
    · rw [o _ _ (by omega) (by omega)] at hi
      rw [o _ _ (by omega) (by omega), o _ _ (by omega) (by omega)]; exact b6 i hi
    · rw [o _ _ (by omega) (by omega)] at hi
      rw [o _ _ (by omega) (by omega), o _ _ (by omega) (by omega)]; exact b7 i hi
    · rw [zTs_s] at hi
      rw [o 0 0 (by omega) (by omega)]
      by_cases q : i = t 0 2
      · rw [q, zTs_o (b := 5) (by omega), zTs_o (b := 5) (by omega), zTs_o (b := 5) (by omega), zTs_s, zTs_o (b := 6) (by omega), zTs_o (b := 6) (by omega), zTs_s, zTs_o (b := 7) (by omega), zTs_s]
        omega
      · rw [zTs_o (b := 5) (by omega), zTs_o (b := 5) (by omega), zTs_o (b := 5) (by omega), zTs_o (b := 5) (by omega), zTs_o (b := 6) (by omega), zTs_o (b := 6) (by omega), zTs_o (b := 6) (by omega), zTs_o (b := 6) (by omega), zTs_o (b := 7) (by omega), zTs_o (b := 7) (by omega), zTs_o (b := 7) (by omega), zTs_o (b := 7) (by omega)]
        exact b8 i (by omega)
  · obtain ⟨x1, x2⟩ := v2 h.1 h.2
    rw [zhr_p h]
    have o : ∀ b j, b ≠ 3 → b ≠ 4 → ¬ (b = 0 ∧ j = 1) → zTs (zTs (zTs t 3 (t 0 1) (k 0 - 7)) 4 (t 0 1) (k 1)) 0 1 (t 0 1 + 1) b j = t b j := fun b j h1 h2 h3 => by rw [zTs_o (by omega), zTs_o (by omega), zTs_o (by omega)]
    refine ⟨by rw [o _ _ (by omega) (by omega) (by omega)]; exact b1, by rw [zTs_s]; omega, by rw [o _ _ (by omega) (by omega) (by omega)]; exact b3, by rw [o _ _ (by omega) (by omega) (by omega)]; exact b4, by rw [o _ _ (by omega) (by omega) (by omega)]; exact b5, fun i hi => ?_, fun i hi => ?_, fun i hi => ?_⟩
    · rw [o _ _ (by omega) (by omega) (by omega)] at hi
      rw [o _ _ (by omega) (by omega) (by omega), o _ _ (by omega) (by omega) (by omega)]; exact b6 i hi
    · rw [zTs_s] at hi
      by_cases q : i = t 0 1
      · rw [q, zTs_o (b := 3) (by omega), zTs_o (b := 3) (by omega), zTs_s, zTs_o (b := 4) (by omega), zTs_s]
        omega
      · rw [zTs_o (b := 3) (by omega), zTs_o (b := 3) (by omega), zTs_o (b := 3) (by omega), zTs_o (b := 4) (by omega), zTs_o (b := 4) (by omega), zTs_o (b := 4) (by omega)]
        exact b7 i (by omega)
    · rw [o _ _ (by omega) (by omega) (by omega)] at hi
      rw [o _ _ (by omega) (by omega) (by omega), o _ _ (by omega) (by omega) (by omega), o _ _ (by omega) (by omega) (by omega), o _ _ (by omega) (by omega) (by omega)]; exact b8 i hi
  · have x1 := v4 h
    rw [zhr_r h]
    have o : ∀ b j, ¬ (b = 0 ∧ j = 3) → zTs t 0 3 (k 1) b j = t b j := fun b j h1 => by rw [zTs_o (by omega)]
    refine ⟨by rw [o _ _ (by omega)]; exact b1, by rw [o _ _ (by omega)]; exact b2, by rw [o _ _ (by omega)]; exact b3, by rw [zTs_s]; exact x1, by rw [o _ _ (by omega)]; exact b5, fun i hi => ?_, fun i hi => ?_, fun i hi => ?_⟩
    · rw [o _ _ (by omega)] at hi
      rw [o _ _ (by omega), o _ _ (by omega)]; exact b6 i hi
    · rw [o _ _ (by omega)] at hi
      rw [o _ _ (by omega), o _ _ (by omega)]; exact b7 i hi
    · rw [o _ _ (by omega)] at hi
      rw [o _ _ (by omega), o _ _ (by omega), o _ _ (by omega), o _ _ (by omega)]; exact b8 i hi
  · rw [zhr_l h]
    have x1 := zor7 (t 0 4) (by omega) (k 0 - 12) (by omega)
    have o : ∀ b j v, ¬ (b = 0 ∧ j = 4) → zTs t 0 4 v b j = t b j := fun b j v h1 => by rw [zTs_o (by omega)]
    refine ⟨by rw [o _ _ _ (by omega)]; exact b1, by rw [o _ _ _ (by omega)]; exact b2, by rw [o _ _ _ (by omega)]; exact b3, by rw [o _ _ _ (by omega)]; exact b4, by rw [zTs_s]; omega, fun i hi => ?_, fun i hi => ?_, fun i hi => ?_⟩
    · rw [o _ _ _ (by omega)] at hi
      rw [o _ _ _ (by omega), o _ _ _ (by omega)]; exact b6 i hi
    · rw [o _ _ _ (by omega)] at hi
      rw [o _ _ _ (by omega), o _ _ _ (by omega)]; exact b7 i hi
    · rw [o _ _ _ (by omega)] at hi
      rw [o _ _ _ (by omega), o _ _ _ (by omega), o _ _ _ (by omega), o _ _ _ (by omega)]; exact b8 i hi
  · rw [zhr_m h]
    have o : ∀ b j v, ¬ (b = 0 ∧ j = 4) → zTs t 0 4 v b j = t b j := fun b j v h1 => by rw [zTs_o (by omega)]
    refine ⟨by rw [o _ _ _ (by omega)]; exact b1, by rw [o _ _ _ (by omega)]; exact b2, by rw [o _ _ _ (by omega)]; exact b3, by rw [o _ _ _ (by omega)]; exact b4, by rw [zTs_s]; omega, fun i hi => ?_, fun i hi => ?_, fun i hi => ?_⟩
    · rw [o _ _ _ (by omega)] at hi
      rw [o _ _ _ (by omega), o _ _ _ (by omega)]; exact b6 i hi
    · rw [o _ _ _ (by omega)] at hi
      rw [o _ _ _ (by omega), o _ _ _ (by omega)]; exact b7 i hi
    · rw [o _ _ _ (by omega)] at hi
      rw [o _ _ _ (by omega), o _ _ _ (by omega), o _ _ _ (by omega), o _ _ _ (by omega)]; exact b8 i hi
-- ===== the class hears =====
theorem zl21 : zlen (19 + 1 + 1) = 10 ∧ zlen (19 + 3 + 1) = 10 ∧ zlen (19 + 5 + 1) = 4 ∧ zlen (19 + 7 + 1) = 4 ∧ zlen (19 + 9 + 1) = 6 ∧ zlen (19 + 11 + 1) = 6 ∧ zlen (19 + 13 + 1) = 6 := by decide +kernel
theorem zCl_s {t : zTau} {g : zS} {k v : Nat} (C : zCl 19 t g) (hk : 3 ≤ k ∧ k ≤ 4) : zCl 19 (zTs t 0 k v) (zup g 19 k (nI v)) := by
  obtain ⟨⟨c0, c1, c2, c3, c4⟩, c5, c6, c7⟩ := C
  have s : ∀ j, g 19 j = nI (t 0 j) → (zup g 19 k (nI v)) 19 j = nI (zTs t 0 k v 0 j) := fun j h => by
    rw [zup_e]
    by_cases q : j = k
    · rw [if_pos q, q, zTs_s]
    · rw [if_neg q, zTs_o (by omega)]; exact h
  refine ⟨⟨s 0 c0, s 1 c1, s 2 c2, s 3 c3, s 4 c4⟩, fun i hi => ?_, fun i hi => ?_, fun i hi => ?_⟩
  · rw [zTs_o (by omega)] at hi
    rw [zup_c (by decide), zup_c (by decide), zTs_o (by omega), zTs_o (by omega)]; exact c5 i hi
  · rw [zTs_o (by omega)] at hi
    rw [zup_c (by decide), zup_c (by decide), zTs_o (by omega), zTs_o (by omega)]; exact c6 i hi
  · rw [zTs_o (by omega)] at hi
    rw [zup_c (by decide), zup_c (by decide), zup_c (by decide), zTs_o (by omega), zTs_o (by omega), zTs_o (by omega)]; exact c7 i hi
theorem f41_sp {K : Nat} {t : zTau} {k : Nat → Nat} {g : zS} (B : zBd t) (V : zVc t k) (C : zCl 19 t g) (h6 : ¬ k 0 = 6) : ∃ g', f41 K 19 (nI (k 0)) (nI (k 1)) g = some ((), g') ∧ (∀ c, c < 19 ∨ 33 < c → g' c = g c) ∧ zCl 19 (zhr t k) g' := by
  obtain ⟨b1, b2, b3, b4, b5, b6, b7, b8⟩ := B
  obtain ⟨v0, v1, v2, v3, v4⟩ := V
  have C0 := C
  obtain ⟨⟨c0, c1, c2, c3, c4⟩, c5, c6, c7⟩ := C
  obtain ⟨z1, z2, z3, z4, z5, z6, z7⟩ := zl21
  have n5 : ∀ a : Nat, a < 2 ^ 31 → (5 < nI a ↔ 5 < a) := fun a ha => nI_ltI (a := 5) (by omega) ha
  have n10 : ∀ a : Nat, a < 2 ^ 31 → (10 < nI a ↔ 10 < a) := fun a ha => nI_ltI (a := 10) (by omega) ha
  have n14 : ∀ a : Nat, a < 2 ^ 31 → (14 < nI a ↔ 14 < a) := fun a ha => nI_ltI (a := 14) (by omega) ha
  have e11 : ∀ a : Nat, a < 2 ^ 31 → (nI a = 11 ↔ a = 11) := fun a ha => nI_eq (b := 11) ha (by omega)
  have e0 : ∀ a : Nat, a < 2 ^ 31 → (nI a = 0 ↔ a = 0) := fun a ha => nI_eq (b := 0) ha (by omega)
  unfold f41
  rcases zhr_cases (k 0) with h | h | h | h | h | h | h
  · rw [zhr_0 h, h, if_neg (fun z => z rfl)]
    unfold f42
    rw [zbd_s]
    refine ⟨_, rfl, fun c hc => by rw [zup_c (by omega), zup_c (by omega), zup_c (by omega), zup_c (by omega), zup_c (by omega)], ⟨⟨rfl, rfl, rfl, rfl, rfl⟩, fun i hi => absurd hi (Nat.not_lt_zero _), fun i hi => absurd hi (Nat.not_lt_zero _), fun i hi => absurd hi (Nat.not_lt_zero _)⟩⟩
  · obtain ⟨x1, x2⟩ := v1 h.1 h.2
    rw [zhr_w h, if_pos (fun z => by have := (e0 _ (by omega)).mp z; omega), if_neg (fun z => by have := (n5 _ (by omega)).mp z; omega), c0, f14_eq (by rw [z1]; exact x1) (by rw [z1]; decide), zbd_s, zup_c (by decide), c0, f14_eq (by rw [z2]; exact x1) (by rw [z2]; decide), zbd_s, zup_c (by decide), zup_c (by decide), c0, nI_1, show nI (k 0) - 1 = nI (k 0 - 1) from pk_sub (a := k 0) (b := 1) (by omega)]
    refine ⟨_, rfl, fun c hc => by rw [zup_c (by omega), zup_c (by omega), zup_c (by omega)], ⟨⟨?_, ?_, ?_, ?_, ?_⟩, fun i hi => ?_, fun i hi => ?_, fun i hi => ?_⟩⟩
    · rw [zup_s, zTs_s]
    · rw [zup_k (by decide), zup_c (by decide), zup_c (by decide), zTs_o (by omega), zTs_o (by omega), zTs_o (by omega)]; exact c1
    · rw [zup_k (by decide), zup_c (by decide), zup_c (by decide), zTs_o (by omega), zTs_o (by omega), zTs_o (by omega)]; exact c2
    · rw [zup_k (by decide), zup_c (by decide), zup_c (by decide), zTs_o (by omega), zTs_o (by omega), zTs_o (by omega)]; exact c3
    · rw [zup_k (by decide), zup_c (by decide), zup_c (by decide), zTs_o (by omega), zTs_o (by omega), zTs_o (by omega)]; exact c4
    · rw [zTs_s] at hi
      rw [zup_c (c2 := 19 + 2) (by decide), zup_c (c2 := 19 + 2) (by decide), zup_c (c2 := 19 + 4) (by decide)]
      show (zup g 21 (t 0 0) (nI (k 0 - 1))) 21 i = _ ∧ (zup (zup g 21 (t 0 0) (nI (k 0 - 1))) 23 (t 0 0) (nI (k 1))) 23 i = _
      rw [zup_e, zup_e, zup_c (by decide)]
      by_cases q : i = t 0 0
      · rw [if_pos q, if_pos q, q, zTs_o (by omega), zTs_o (by omega), zTs_s, zTs_o (by omega), zTs_s]
        exact ⟨rfl, rfl⟩
      · rw [if_neg q, if_neg q, zTs_o (by omega), zTs_o (by omega), zTs_o (by omega), zTs_o (by omega), zTs_o (by omega), zTs_o (by omega)]
        exact c5 i (by omega)
    · rw [zTs_o (by omega), zTs_o (by omega), zTs_o (by omega)] at hi
      rw [zup_c (by decide), zup_c (by decide), zup_c (by decide), zup_c (by decide), zup_c (by decide), zup_c (by decide), zTs_o (by omega), zTs_o (by omega), zTs_o (by omega), zTs_o (by omega), zTs_o (by omega), zTs_o (by omega)]
      exact c6 i hi
    · rw [zTs_o (by omega), zTs_o (by omega), zTs_o (by omega)] at hi
      rw [zup_c (by decide), zup_c (by decide), zup_c (by decide), zup_c (by decide), zup_c (by decide), zup_c (by decide), zup_c (by decide), zup_c (by decide), zup_c (by decide), zTs_o (b := 5) (by omega), zTs_o (b := 5) (by omega), zTs_o (b := 5) (by omega), zTs_o (b := 6) (by omega), zTs_o (b := 6) (by omega), zTs_o (b := 6) (by omega), zTs_o (b := 7) (by omega), zTs_o (b := 7) (by omega), zTs_o (b := 7) (by omega)]
      exact c7 i hi
  · exact absurd h h6
  · obtain ⟨x1, x2⟩ := v2 h.1 h.2
    rw [zhr_p h, if_pos (fun z => by have := (e0 _ (by omega)).mp z; omega), if_pos ((n5 _ (by omega)).mpr (by omega)), if_neg (fun z => by have := (n10 _ (by omega)).mp z; omega), c1, f14_eq (by rw [z3]; exact x1) (by rw [z3]; decide), zbd_s, zup_c (by decide), c1, f14_eq (by rw [z4]; exact x1) (by rw [z4]; decide), zbd_s, zup_c (by decide), zup_c (by decide), c1, nI_1, show nI (k 0) - 7 = nI (k 0 - 7) from pk_sub (a := k 0) (b := 7) (by omega)]
    refine ⟨_, rfl, fun c hc => by rw [zup_c (by omega), zup_c (by omega), zup_c (by omega)], ⟨⟨?_, ?_, ?_, ?_, ?_⟩, fun i hi => ?_, fun i hi => ?_, fun i hi => ?_⟩⟩
    · rw [zup_k (by decide), zup_c (by decide), zup_c (by decide), zTs_o (by omega), zTs_o (by omega), zTs_o (by omega)]; exact c0
    · rw [zup_s, zTs_s]
    · rw [zup_k (by decide), zup_c (by decide), zup_c (by decide), zTs_o (by omega), zTs_o (by omega), zTs_o (by omega)]; exact c2
    · rw [zup_k (by decide), zup_c (by decide), zup_c (by decide), zTs_o (by omega), zTs_o (by omega), zTs_o (by omega)]; exact c3
    · rw [zup_k (by decide), zup_c (by decide), zup_c (by decide), zTs_o (by omega), zTs_o (by omega), zTs_o (by omega)]; exact c4
    · rw [zTs_o (by omega), zTs_o (by omega), zTs_o (by omega)] at hi
      rw [zup_c (by decide), zup_c (by decide), zup_c (by decide), zup_c (by decide), zup_c (by decide), zup_c (by decide), zTs_o (by omega), zTs_o (by omega), zTs_o (by omega), zTs_o (by omega), zTs_o (by omega), zTs_o (by omega)]
      exact c5 i hi
    · rw [zTs_s] at hi
      rw [zup_c (c2 := 19 + 6) (by decide), zup_c (c2 := 19 + 6) (by decide), zup_c (c2 := 19 + 8) (by decide)]
      show (zup g 25 (t 0 1) (nI (k 0 - 7))) 25 i = _ ∧ (zup (zup g 25 (t 0 1) (nI (k 0 - 7))) 27 (t 0 1) (nI (k 1))) 27 i = _
      rw [zup_e, zup_e, zup_c (by decide)]
      by_cases q : i = t 0 1
      · rw [if_pos q, if_pos q, q, zTs_o (by omega), zTs_o (by omega), zTs_s, zTs_o (by omega), zTs_s]
        exact ⟨rfl, rfl⟩
      · rw [if_neg q, if_neg q, zTs_o (by omega), zTs_o (by omega), zTs_o (by omega), zTs_o (by omega), zTs_o (by omega), zTs_o (by omega)]
        exact c6 i (by omega)
    · rw [zTs_o (by omega), zTs_o (by omega), zTs_o (by omega)] at hi
      rw [zup_c (by decide), zup_c (by decide), zup_c (by decide), zup_c (by decide), zup_c (by decide), zup_c (by decide), zup_c (by decide), zup_c (by decide), zup_c (by decide), zTs_o (b := 5) (by omega), zTs_o (b := 5) (by omega), zTs_o (b := 5) (by omega), zTs_o (b := 6) (by omega), zTs_o (b := 6) (by omega), zTs_o (b := 6) (by omega), zTs_o (b := 7) (by omega), zTs_o (b := 7) (by omega), zTs_o (b := 7) (by omega)]
      exact c7 i hi
  · rw [zhr_r h, if_pos (fun z => by have := (e0 _ (by omega)).mp z; omega), if_pos ((n5 _ (by omega)).mpr (by omega)), if_pos ((n10 _ (by omega)).mpr (by omega)), if_neg (fun z => z ((e11 _ (by omega)).mpr h))]
    exact ⟨_, rfl, fun c hc => zup_c (by omega), zCl_s C0 (by omega)⟩
  · have e : (1 : Int32) <<< ((nI (k 0) - 12) &&& 31) = nI (2 ^ (k 0 - 12)) := by
      rw [show nI (k 0) - 12 = nI (k 0 - 12) from pk_sub (a := k 0) (b := 12) (by omega)]
      exact nx_one (by omega)
    rw [zhr_l h, if_pos (fun z => by have := (e0 _ (by omega)).mp z; omega), if_pos ((n5 _ (by omega)).mpr (by omega)), if_pos ((n10 _ (by omega)).mpr (by omega)), if_pos (fun z => by have := (e11 _ (by omega)).mp z; omega), if_neg (fun z => by have := (n14 _ (by omega)).mp z; omega), e, c4, nx_or]
    exact ⟨_, rfl, fun c hc => zup_c (by omega), zCl_s C0 (by omega)⟩
  · rw [zhr_m h, if_pos (fun z => by have := (e0 _ (by omega)).mp z; omega), if_pos ((n5 _ (by omega)).mpr (by omega)), if_pos ((n10 _ (by omega)).mpr (by omega)), if_pos (fun z => by have := (e11 _ (by omega)).mp z; omega), if_pos ((n14 _ (by omega)).mpr (by omega))]
    exact ⟨_, rfl, fun c hc => zup_c (by omega), zCl_s (v := 0) C0 (by omega)⟩
theorem f39_sp {K : Nat} {t : zTau} {k : Nat → Nat} {g : zS} (B : zBd t) (V : zVc t k) (C : zCl 19 t g) (h6 : k 0 = 6) : ∃ g', f39 K 19 (nI (k 1)) (nI (k 2)) (nI (k 3)) g = some ((), g') ∧ (∀ c, c < 19 ∨ 33 < c → g' c = g c) ∧ zCl 19 (zhr t k) g' := by
  obtain ⟨v0, v1, v2, v3, v4⟩ := V
  obtain ⟨⟨c0, c1, c2, c3, c4⟩, c5, c6, c7⟩ := C
  obtain ⟨z1, z2, z3, z4, z5, z6, z7⟩ := zl21
  obtain ⟨x1, x2, x3, x4⟩ := v3 h6
  unfold f39
  rw [zhr_c h6, c2, f14_eq (by rw [z5]; exact x1) (by rw [z5]; decide), zbd_s, zup_c (by decide), c2, f14_eq (by rw [z6]; exact x1) (by rw [z6]; decide), zbd_s, zup_c (by decide), zup_c (by decide), c2, f14_eq (by rw [z7]; exact x1) (by rw [z7]; decide), zbd_s, zup_c (by decide), zup_c (by decide), zup_c (by decide), c2, nI_1]
  have o : ∀ b j, b ≤ 4 → ¬ (b = 0 ∧ j = 2) → zTs (zTs (zTs (zTs t 5 (t 0 2) (k 1)) 6 (t 0 2) (k 2)) 7 (t 0 2) (k 3)) 0 2 (t 0 2 + 1) b j = t b j := fun b j h1 h2 => by rw [zTs_o (by omega), zTs_o (by omega), zTs_o (by omega), zTs_o (by omega)]
  refine ⟨_, rfl, fun c hc => by rw [zup_c (by omega), zup_c (by omega), zup_c (by omega), zup_c (by omega)], ⟨⟨?_, ?_, ?_, ?_, ?_⟩, fun i hi => ?_, fun i hi => ?_, fun i hi => ?_⟩⟩
  · rw [zup_k (by decide), zup_c (by decide), zup_c (by decide), zup_c (by decide), o _ _ (by omega) (by omega)]; exact c0
  · rw [zup_k (by decide), zup_c (by decide), zup_c (by decide), zup_c (by decide), o _ _ (by omega) (by omega)]; exact c1
  · rw [zup_s, zTs_s]
  · rw [zup_k (by decide), zup_c (by decide), zup_c (by decide), zup_c (by decide), o _ _ (by omega) (by omega)]; exact c3
  · rw [zup_k (by decide), zup_c (by decide), zup_c (by decide), zup_c (by decide), o _ _ (by omega) (by omega)]; exact c4
  · rw [o _ _ (by omega) (by omega)] at hi
    rw [o _ _ (by omega) (by omega), o _ _ (by omega) (by omega), zup_c (by decide), zup_c (by decide), zup_c (by decide), zup_c (by decide), zup_c (by decide), zup_c (by decide), zup_c (by decide), zup_c (by decide)]
    exact c5 i hi
  · rw [o _ _ (by omega) (by omega)] at hi
    rw [o _ _ (by omega) (by omega), o _ _ (by omega) (by omega), zup_c (by decide), zup_c (by decide), zup_c (by decide), zup_c (by decide), zup_c (by decide), zup_c (by decide), zup_c (by decide), zup_c (by decide)]
    exact c6 i hi
  · rw [zTs_s] at hi
    show (zup (zup (zup (zup g 29 (t 0 2) (nI (k 1))) 31 (t 0 2) (nI (k 2))) 33 (t 0 2) (nI (k 3))) 19 2 (nI (t 0 2 + 1))) 29 i = _ ∧ (zup (zup (zup (zup g 29 (t 0 2) (nI (k 1))) 31 (t 0 2) (nI (k 2))) 33 (t 0 2) (nI (k 3))) 19 2 (nI (t 0 2 + 1))) 31 i = _ ∧ (zup (zup (zup (zup g 29 (t 0 2) (nI (k 1))) 31 (t 0 2) (nI (k 2))) 33 (t 0 2) (nI (k 3))) 19 2 (nI (t 0 2 + 1))) 33 i = _
    have a1 : ∀ X, (zup (zup (zup (zup g 29 (t 0 2) (nI (k 1))) 31 (t 0 2) (nI (k 2))) 33 (t 0 2) (nI (k 3))) 19 2 X) 29 i = if i = t 0 2 then nI (k 1) else g 29 i := fun X => by rw [zup_c (by decide), zup_c (by decide), zup_c (by decide), zup_e]
    have a2 : ∀ X, (zup (zup (zup (zup g 29 (t 0 2) (nI (k 1))) 31 (t 0 2) (nI (k 2))) 33 (t 0 2) (nI (k 3))) 19 2 X) 31 i = if i = t 0 2 then nI (k 2) else g 31 i := fun X => by rw [zup_c (by decide), zup_c (by decide), zup_e, zup_c (by decide)]
    have a3 : ∀ X, (zup (zup (zup (zup g 29 (t 0 2) (nI (k 1))) 31 (t 0 2) (nI (k 2))) 33 (t 0 2) (nI (k 3))) 19 2 X) 33 i = if i = t 0 2 then nI (k 3) else g 33 i := fun X => by rw [zup_c (by decide), zup_e, zup_c (by decide), zup_c (by decide)]
    rw [a1, a2, a3]
    by_cases q : i = t 0 2
    · rw [if_pos q, if_pos q, if_pos q, q, zTs_o (b := 5) (by omega), zTs_o (b := 5) (by omega), zTs_o (b := 5) (by omega), zTs_s, zTs_o (b := 6) (by omega), zTs_o (b := 6) (by omega), zTs_s, zTs_o (b := 7) (by omega), zTs_s]
      exact ⟨rfl, rfl, rfl⟩
    · rw [if_neg q, if_neg q, if_neg q, zTs_o (b := 5) (by omega), zTs_o (b := 5) (by omega), zTs_o (b := 5) (by omega), zTs_o (b := 5) (by omega), zTs_o (b := 6) (by omega), zTs_o (b := 6) (by omega), zTs_o (b := 6) (by omega), zTs_o (b := 6) (by omega), zTs_o (b := 7) (by omega), zTs_o (b := 7) (by omega), zTs_o (b := 7) (by omega), zTs_o (b := 7) (by omega)]
      exact c7 i (by omega)
