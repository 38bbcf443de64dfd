-- ===== the class: sorted, and the next order =====
theorem zsg_mid {c : Nat → Nat} {a i n : Nat} (h : i < n) : zsg c a n = zsg c a i ++ c (a + i) :: zsg c (a + i + 1) (n - i - 1) := by
  have := zsg_app (c := c) i a (n - i - 1 + 1)
  rw [show i + (n - i - 1 + 1) = n by omega] at this
  rw [this]
  rfl
theorem zsg_mem {c : Nat → Nat} : ∀ n a z, z ∈ zsg c a n → ∃ k, a ≤ k ∧ k < a + n ∧ z = c k := by
  intro n
  induction n with
  | zero => intro a z h; cases h
  | succ n ih =>
    intro a z h
    rcases List.mem_cons.mp h with h | h
    · exact ⟨a, by omega, by omega, h⟩
    · obtain ⟨k, h1, h2, h3⟩ := ih (a + 1) z h
      exact ⟨k, by omega, by omega, h3⟩
theorem zsg_pw {c : Nat → Nat} {R : Nat → Nat → Prop} : ∀ n a, (∀ i j, a ≤ i → i < j → j < a + n → R (c i) (c j)) → (zsg c a n).Pairwise R := by
  intro n
  induction n with
  | zero => intro a _; exact List.Pairwise.nil
  | succ n ih =>
    intro a h
    refine List.pairwise_cons.mpr ⟨fun z hz => ?_, ih (a + 1) (fun i j h1 h2 h3 => h i j (by omega) h2 (by omega))⟩
    obtain ⟨k, h1, h2, h3⟩ := zsg_mem n (a + 1) z hz
    rw [h3]
    exact h a k (by omega) (by omega) (by omega)
def zwp (c : Nat → Nat) (i j : Nat) : Nat → Nat := fun k => if k = j then c i else if k = i then c j else c k
theorem zwp_j {c : Nat → Nat} {i j : Nat} : zwp c i j j = c i := if_pos rfl
theorem zwp_i {c : Nat → Nat} {i j : Nat} (h : i ≠ j) : zwp c i j i = c j := (if_neg h).trans (if_pos rfl)
theorem zwp_o {c : Nat → Nat} {i j k : Nat} (h1 : k ≠ i) (h2 : k ≠ j) : zwp c i j k = c k := (if_neg h2).trans (if_neg h1)
theorem zwp_perm {c : Nat → Nat} {i m : Nat} (h : i + 1 < m) : List.Perm (zsg (zwp c i (i + 1)) 0 m) (zsg c 0 m) := by
  have e := fun c' : Nat → Nat => zsg_mid (c := c') (a := 0) (i := i) (n := m) (by omega)
  have e2 := fun c' : Nat → Nat => zsg_mid (c := c') (a := 0 + i + 1) (i := 0) (n := m - i - 1) (by omega)
  rw [e (zwp c i (i + 1)), e c, e2 (zwp c i (i + 1)), e2 c, zsg_c (c := zwp c i (i + 1)) (c' := c) i 0 (fun k h1 h2 => zwp_o (by omega) (by omega)), zsg_c (c := zwp c i (i + 1)) (c' := c) _ (0 + i + 1 + 0 + 1) (fun k h1 h2 => zwp_o (by omega) (by omega))]
  rw [show zwp c i (i + 1) (0 + i) = c (i + 1) by rw [Nat.zero_add]; exact zwp_i (by omega), show zwp c i (i + 1) (0 + i + 1 + 0) = c i by rw [show 0 + i + 1 + 0 = i + 1 by omega]; exact zwp_j, show 0 + i = i by omega, Nat.add_zero]
  exact List.Perm.append_left _ (List.Perm.swap _ _ _)
/-- the trial's array holds c -/
def zHs (m : Nat) (c : Nat → Nat) (g : zS) : Prop := ∀ i, i < m → c i ≤ 9 ∧ g 216 i = nI (c i)
theorem zHs_c {m : Nat} {c c' : Nat → Nat} {g : zS} (h : zHs m c g) (e : ∀ k, k < m → c k = c' k) : zHs m c' g := fun i hi => by rw [← e i hi]; exact h i hi
theorem f104_eq {K i j : Nat} {g : zS} (hi : i < 8) (hj : j < 8) : f104 K 214 (nI i) (nI j) g = some ((), zup (zup g 216 i (g 216 j)) 216 j (g 216 i)) := by
  have z : zlen (214 + 1 + 1) = 8 := by decide +kernel
  unfold f104
  rw [f21_eq (by rw [z]; exact hi) (by rw [z]; decide), zbd_s, f21_eq (by rw [z]; exact hj) (by rw [z]; decide), zbd_s, f14_eq (by rw [z]; exact hi) (by rw [z]; decide), zbd_s, f14_eq (by rw [z]; exact hj) (by rw [z]; decide), zbd_s]
theorem zHs_sw {m i j : Nat} {c : Nat → Nat} {g : zS} (h : zHs m c g) (hi : i < m) (hj : j < m) : zHs m (zwp c i j) (zup (zup g 216 i (g 216 j)) 216 j (g 216 i)) := by
  intro k hk
  by_cases q : k = j
  · rw [q, zwp_j, zup_s]
    exact h i hi
  by_cases q2 : k = i
  · rw [q2, zwp_i (by omega), zup_k (by omega), zup_s]
    exact h j hj
  · rw [zwp_o q2 q, zup_k q, zup_k q2]
    exact h k hk
theorem f103_12_lp {K m x1 : Nat} {k2 : Nat → Int32 → zS → Option (Unit × zS)} (hm : m ≤ 8) (h1 : x1 < m) : ∀ x2 q (c : Nat → Nat) (g : zS), x2 ≤ x1 → x2 < q → zHs m c g → (∀ a b, a < b → b ≤ x1 → a ≠ x2 → b ≠ x2 → c a ≤ c b) → (∀ b, x2 < b → b ≤ x1 → c x2 ≤ c b) → ∃ c' g', f103_12 K k2 q 214 (nI x1) (nI x2) g = k2 214 (nI (x1 + 1)) g' ∧ zHs m c' g' ∧ List.Perm (zsg c' 0 m) (zsg c 0 m) ∧ (∀ a b, a < b → b ≤ x1 → c' a ≤ c' b) ∧ ∀ c, c ≠ 216 → g' c = g c := by
  have z : zlen (214 + 1 + 1) = 8 := by decide +kernel
  intro x2
  induction x2 with
  | zero =>
    intro q c g h2 h3 H s1 s2
    obtain ⟨q, rfl⟩ : ∃ z, q = z + 1 := ⟨q - 1, by omega⟩
    rw [f103_12, if_pos (show nI 0 ≤ (0 : Int32) by decide)]
    unfold f103_51
    rw [nI_1]
    refine ⟨c, g, rfl, H, List.Perm.refl _, fun a b h4 h5 => ?_, fun c _ => rfl⟩
    by_cases q : a = 0
    · rw [q]; exact s2 b (by omega) h5
    · exact s1 a b h4 h5 q (by omega)
  | succ x2 ih =>
    intro q c g h2 h3 H s1 s2
    obtain ⟨q, rfl⟩ : ∃ z, q = z + 1 := ⟨q - 1, by omega⟩
    obtain ⟨y1, y2⟩ := H x2 (by omega)
    obtain ⟨y3, y4⟩ := H (x2 + 1) (by omega)
    rw [f103_12, if_neg (show ¬ nI (x2 + 1) ≤ (0 : Int32) from nI_ge (a := 0) (by omega) (by omega)), show nI (x2 + 1) - 1 = nI x2 from pk_sub (a := x2 + 1) (b := 1) (by omega), f21_eq (by rw [z]; omega) (by rw [z]; decide), zbd_s, f21_eq (by rw [z]; omega) (by rw [z]; decide), zbd_s, show g (214 + 1 + 1) x2 = nI (c x2) from y2, show g (214 + 1 + 1) (x2 + 1) = nI (c (x2 + 1)) from y4]
    by_cases q1 : c x2 ≤ c (x2 + 1)
    · rw [if_pos (nI_le q1 (by omega))]
      unfold f103_51
      rw [nI_1]
      refine ⟨c, g, rfl, H, List.Perm.refl _, fun a b h4 h5 => ?_, fun c _ => rfl⟩
      by_cases q2 : a = x2 + 1
      · rw [q2]; exact s2 b (by omega) h5
      by_cases q3 : b = x2 + 1
      · rw [q3]
        by_cases q4 : a = x2
        · rw [q4]; exact q1
        · have := s1 a x2 (by omega) (by omega) q2 (by omega)
          omega
      · exact s1 a b h4 h5 q2 q3
    · obtain ⟨c', g', a1, a2, a3, a4, a5⟩ := ih q (zwp c x2 (x2 + 1)) _ (by omega) (by omega) (zHs_sw H (i := x2) (j := x2 + 1) (by omega) (by omega)) (fun a b h4 h5 h6 h7 => by
        by_cases q2 : a = x2 + 1
        · rw [q2, zwp_j, zwp_o (by omega) (by omega)]
          exact s1 x2 b (by omega) h5 (by omega) (by omega)
        by_cases q3 : b = x2 + 1
        · rw [q3, zwp_j, zwp_o (by omega) (by omega)]
          exact s1 a x2 (by omega) (by omega) (by omega) (by omega)
        · rw [zwp_o h6 q2, zwp_o h7 q3]
          exact s1 a b h4 h5 q2 q3) (fun b h4 h5 => by
        rw [zwp_i (by omega)]
        by_cases q2 : b = x2 + 1
        · rw [q2, zwp_j]; omega
        · rw [zwp_o (by omega) q2]
          exact s2 b (by omega) h5)
      rw [if_neg (nI_ge (by omega) (by omega)), f104_eq (by omega) (by omega), zbd_s, zsubneg, show nI (x2 + 1) - 1 = nI x2 from pk_sub (a := x2 + 1) (b := 1) (by omega)]
      exact ⟨c', g', a1, a2, a3.trans (zwp_perm (by omega)), a4, fun c hc => by rw [a5 c hc, zup_c hc, zup_c hc]⟩
theorem f103_lp {K m : Nat} (hK : 20 ≤ K) (hm : m ≤ 8) : ∀ d x1 q (c : Nat → Nat) (g : zS), m ≤ x1 + d → d < q → 0 < x1 → x1 ≤ 9 → g 214 1 = nI m → zHs m c g → (∀ a b, a < b → b < x1 → b < m → c a ≤ c b) → ∃ c' g', f103_2 K q 214 (nI x1) g = some ((), g') ∧ zHs m c' g' ∧ List.Perm (zsg c' 0 m) (zsg c 0 m) ∧ (∀ a b, a < b → b < m → c' a ≤ c' b) ∧ ∀ c, c ≠ 216 → g' c = g c := by
  intro d
  induction d with
  | zero =>
    intro x1 q c g h1 h2 _ h8 h3 H s
    obtain ⟨q, rfl⟩ : ∃ z, q = z + 1 := ⟨q - 1, by omega⟩
    rw [f103_2, h3, if_pos (nI_le (by omega) (by omega))]
    exact ⟨c, g, rfl, H, List.Perm.refl _, fun a b h4 h5 => s a b h4 (by omega) h5, fun c _ => rfl⟩
  | succ d ih =>
    intro x1 q c g h1 h2 h0 h8 h3 H s
    obtain ⟨q, rfl⟩ : ∃ z, q = z + 1 := ⟨q - 1, by omega⟩
    by_cases q1 : m ≤ x1
    · rw [f103_2, h3, if_pos (nI_le q1 (by omega))]
      exact ⟨c, g, rfl, H, List.Perm.refl _, fun a b h4 h5 => s a b h4 (by omega) h5, fun c _ => rfl⟩
    · obtain ⟨c1, g1, a1, a2, a3, a4, a5⟩ := f103_12_lp (K := K) (k2 := f103_2 K q) hm (x1 := x1) (by omega) x1 K c g (Nat.le_refl _) (by omega) H (fun a b h4 h5 h6 h7 => s a b h4 (by omega) (by omega)) (fun b h4 h5 => by omega)
      obtain ⟨c2, g2, b1, b2, b3, b4, b5⟩ := ih (x1 + 1) q c1 g1 (by omega) (by omega) (by omega) (by omega) (by rw [a5 214 (by decide)]; exact h3) a2 (fun a b h4 h5 h6 => a4 a b h4 (by omega))
      rw [f103_2, h3, if_neg (nI_ge (by omega) (by omega)), a1]
      exact ⟨c2, g2, b1, b2, b3.trans a3, b4, fun c hc => by rw [b5 c hc, a5 c hc]⟩
theorem f103_sp {K m : Nat} {c : Nat → Nat} {g : zS} (hK : 20 ≤ K) (hm : m ≤ 8) (h3 : g 214 1 = nI m) (H : zHs m c g) : ∃ c' g', f103 K 214 g = some ((), g') ∧ zHs m c' g' ∧ List.Perm (zsg c' 0 m) (zsg c 0 m) ∧ (zsg c' 0 m).Pairwise (fun u v => u ≤ v) ∧ ∀ c, c ≠ 216 → g' c = g c := by
  obtain ⟨c', g', a1, a2, a3, a4, a5⟩ := f103_lp hK hm m 1 K c g (by omega) (by omega) (by omega) (by omega) h3 H (fun a b h1 h2 h4 => by omega)
  exact ⟨c', g', a1, a2, a3, zsg_pw m 0 (fun i j _ h2 h4 => a4 i j h2 (by omega)), a5⟩
theorem f107_101_lp {K m : Nat} (hm : m ≤ 8) : ∀ d q a b (c : Nat → Nat) (g : zS), b ≤ a + d → d < q → a ≤ m → b < m → a ≤ b + 1 → zHs m c g → ∃ g', f107_101 K q 214 (nI a) (nI b) g = some (1, g') ∧ zHs m (fun k => if a ≤ k ∧ k ≤ b then c (a + b - k) else c k) g' ∧ ∀ c, c ≠ 216 → g' c = g c := by
  have stop : ∀ q a b (c : Nat → Nat) (g : zS), b ≤ a → a ≤ m → b < m → zHs m c g → ∃ g', f107_101 K (q + 1) 214 (nI a) (nI b) g = some (1, g') ∧ zHs m (fun k => if a ≤ k ∧ k ≤ b then c (a + b - k) else c k) g' ∧ ∀ c, c ≠ 216 → g' c = g c := by
    intro q a b c g h1 h2 h3 H
    rw [f107_101, if_pos (nI_le h1 (by omega))]
    refine ⟨g, rfl, zHs_c H (fun k hk => ?_), fun c _ => rfl⟩
    by_cases q : a ≤ k ∧ k ≤ b
    · show c k = if a ≤ k ∧ k ≤ b then c (a + b - k) else c k
      rw [if_pos q, show a + b - k = k by omega]
    · show c k = if a ≤ k ∧ k ≤ b then c (a + b - k) else c k
      rw [if_neg q]
  intro d
  induction d with
  | zero =>
    intro q a b c g h1 h2 h3 h4 h5 H
    obtain ⟨q, rfl⟩ : ∃ z, q = z + 1 := ⟨q - 1, by omega⟩
    exact stop q a b c g h1 h3 h4 H
  | succ d ih =>
    intro q a b c g h1 h2 h3 h4 h5 H
    obtain ⟨q, rfl⟩ : ∃ z, q = z + 1 := ⟨q - 1, by omega⟩
    by_cases q1 : b ≤ a
    · exact stop q a b c g q1 h3 h4 H
    · obtain ⟨g', a1, a2, a3⟩ := ih q (a + 1) (b - 1) (zwp c a b) _ (by omega) (by omega) (by omega) (by omega) (by omega) (zHs_sw H (i := a) (j := b) (by omega) h4)
      rw [f107_101, if_neg (nI_ge (by omega) (by omega)), f104_eq (by omega) (by omega), zbd_s, nI_1, zsubneg, show nI b - 1 = nI (b - 1) from pk_sub (a := b) (b := 1) (by omega)]
      refine ⟨g', a1, zHs_c a2 (fun k hk => ?_), fun c hc => by rw [a3 c hc, zup_c hc, zup_c hc]⟩
      show (if a + 1 ≤ k ∧ k ≤ b - 1 then zwp c a b (a + 1 + (b - 1) - k) else zwp c a b k) = if a ≤ k ∧ k ≤ b then c (a + b - k) else c k
      by_cases q2 : a + 1 ≤ k ∧ k ≤ b - 1
      · rw [if_pos q2, if_pos (show a ≤ k ∧ k ≤ b by omega), zwp_o (by omega) (by omega), show a + 1 + (b - 1) - k = a + b - k by omega]
      · rw [if_neg q2]
        by_cases q3 : k = a
        · rw [q3, zwp_i (by omega), if_pos (show a ≤ a ∧ a ≤ b by omega), show a + b - a = b by omega]
        by_cases q4 : k = b
        · rw [q4, zwp_j, if_pos (show a ≤ b ∧ b ≤ b by omega), show a + b - b = a by omega]
        · rw [zwp_o q3 q4, if_neg (show ¬ (a ≤ k ∧ k ≤ b) by omega)]
theorem f107_51_lp {K m i : Nat} {c : Nat → Nat} {g : zS} (hm : m ≤ 8) (H : zHs m c g) (hlt : c i < c (i + 1)) : ∀ d q j, j = i + 1 + d → d < q → j < m → (∀ k, j < k → k < m → c k ≤ c i) → ∃ j2, i < j2 ∧ j2 < m ∧ f107_51 K q 214 (nI i) (nI j) g = f107_83 K 214 (nI i) (nI j2) g ∧ c i < c j2 ∧ ∀ k, j2 < k → k < m → c k ≤ c i := by
  have z : zlen (214 + 1 + 1) = 8 := by decide +kernel
  intro d
  induction d with
  | zero =>
    intro q j h1 h2 h3 h4
    obtain ⟨q, rfl⟩ : ∃ z, q = z + 1 := ⟨q - 1, by omega⟩
    refine ⟨j, by omega, h3, ?_, by rw [h1]; exact hlt, h4⟩
    rw [f107_51, nI_1, if_pos (nI_le (by omega) (by omega))]
  | succ d ih =>
    intro q j h1 h2 h3 h4
    obtain ⟨q, rfl⟩ : ∃ z, q = z + 1 := ⟨q - 1, by omega⟩
    obtain ⟨y1, y2⟩ := H i (by omega)
    obtain ⟨y3, y4⟩ := H j h3
    rw [f107_51, nI_1, if_neg (nI_ge (by omega) (by omega)), f21_eq (by rw [z]; omega) (by rw [z]; decide), zbd_s, f21_eq (by rw [z]; omega) (by rw [z]; decide), zbd_s, show g (214 + 1 + 1) i = nI (c i) from y2, show g (214 + 1 + 1) j = nI (c j) from y4]
    by_cases q1 : c i < c j
    · rw [if_pos (nI_lt q1 (by omega))]
      exact ⟨j, by omega, h3, rfl, q1, h4⟩
    · obtain ⟨j2, a1, a2, a3, a4, a5⟩ := ih q (j - 1) (by omega) (by omega) (by omega) (fun k h5 h6 => by
        by_cases q2 : k = j
        · rw [q2]; omega
        · exact h4 k (by omega) h6)
      rw [if_neg (nI_nlt (by omega) (by omega)), zsubneg, show nI j - 1 = nI (j - 1) from pk_sub (a := j) (b := 1) (by omega)]
      exact ⟨j2, a1, a2, a3, a4, a5⟩
theorem f107_7_lp {K m : Nat} {c : Nat → Nat} {g : zS} (hm : m ≤ 8) (H : zHs m c g) : ∀ i q, i + 1 < m → i + 1 < q → (∀ a b, i + 1 ≤ a → a < b → b < m → c b ≤ c a) → (∃ i0, i0 + 1 < m ∧ f107_7 K q 214 (nI i) g = f107_38 K 214 (nI i0) g ∧ c i0 < c (i0 + 1) ∧ ∀ a b, i0 + 1 ≤ a → a < b → b < m → c b ≤ c a) ∨ (f107_7 K q 214 (nI i) g = some (0, g) ∧ ∀ a b, a < b → b < m → c b ≤ c a) := by
  have z : zlen (214 + 1 + 1) = 8 := by decide +kernel
  intro i
  induction i with
  | zero =>
    intro q h1 h2 h3
    obtain ⟨q, rfl⟩ : ∃ z, q = z + 1 + 1 := ⟨q - 2, by omega⟩
    obtain ⟨y1, y2⟩ := H 0 (by omega)
    obtain ⟨y3, y4⟩ := H 1 (by omega)
    rw [f107_7, if_neg (show ¬ nI 0 < (0 : Int32) by decide), nI_1, f21_eq (by rw [z]; omega) (by rw [z]; decide), zbd_s, f21_eq (by rw [z]; omega) (by rw [z]; decide), zbd_s, show g (214 + 1 + 1) 0 = nI (c 0) from y2, show g (214 + 1 + 1) (0 + 1) = nI (c 1) from y4]
    by_cases q1 : c 0 < c 1
    · rw [if_pos (nI_lt q1 (by omega))]
      exact Or.inl ⟨0, h1, rfl, q1, h3⟩
    · rw [if_neg (nI_nlt (by omega) (by omega)), show nI 0 + (-1) = (-1 : Int32) by decide, f107_7, if_pos (show (-1 : Int32) < 0 by decide)]
      unfold f107_38
      rw [if_neg (show ¬ (0 : Int32) ≤ -1 by decide)]
      refine Or.inr ⟨rfl, fun a b h4 h5 => ?_⟩
      by_cases q2 : a = 0
      · rw [q2]
        by_cases q3 : b = 1
        · rw [q3]; omega
        · have := h3 1 b (by omega) (by omega) h5
          omega
      · exact h3 a b (by omega) h4 h5
  | succ i ih =>
    intro q h1 h2 h3
    obtain ⟨q, rfl⟩ : ∃ z, q = z + 1 := ⟨q - 1, by omega⟩
    obtain ⟨y1, y2⟩ := H (i + 1) (by omega)
    obtain ⟨y3, y4⟩ := H (i + 1 + 1) (by omega)
    rw [f107_7, if_neg (show ¬ nI (i + 1) < (0 : Int32) from nI_nlt (b := 0) (by omega) (by omega)), nI_1, f21_eq (by rw [z]; omega) (by rw [z]; decide), zbd_s, f21_eq (by rw [z]; omega) (by rw [z]; decide), zbd_s, show g (214 + 1 + 1) (i + 1) = nI (c (i + 1)) from y2, show g (214 + 1 + 1) (i + 1 + 1) = nI (c (i + 1 + 1)) from y4]
    by_cases q1 : c (i + 1) < c (i + 1 + 1)
    · rw [if_pos (nI_lt q1 (by omega))]
      exact Or.inl ⟨i + 1, h1, rfl, q1, h3⟩
    · rw [if_neg (nI_nlt (by omega) (by omega)), zsubneg, show nI (i + 1) - 1 = nI i from pk_sub (a := i + 1) (b := 1) (by omega)]
      refine ih q (by omega) (by omega) (fun a b h4 h5 h6 => ?_)
      by_cases q2 : a = i + 1
      · rw [q2]
        by_cases q3 : b = i + 1 + 1
        · rw [q3]; omega
        · have := h3 (i + 1 + 1) b (by omega) (by omega) h6
          omega
      · exact h3 a b (by omega) h5 h6
theorem f107_sp {K m : Nat} {c : Nat → Nat} {g : zS} (hK : 20 ≤ K) (hm : m ≤ 8) (h3 : g 214 1 = nI m) (H : zHs m c g) : (∃ c' g', f107 K 214 g = some (1, g') ∧ zHs m c' g' ∧ List.Perm (zsg c' 0 m) (zsg c 0 m) ∧ zwl (zsg c 0 m) (zsg c' 0 m) = true ∧ (∀ p, List.Perm p (zsg c 0 m) → zwl (zsg c 0 m) p = true → zLe (zsg c' 0 m) p) ∧ ∀ c, c ≠ 216 → g' c = g c) ∨ (f107 K 214 g = some (0, g) ∧ ∀ p, List.Perm p (zsg c 0 m) → zLe p (zsg c 0 m)) := by
  have last : (∀ a b, a < b → b < m → c b ≤ c a) → ∀ p, List.Perm p (zsg c 0 m) → zLe p (zsg c 0 m) := fun h p hp => zmax_le _ p (zsg_pw m 0 (fun i j _ h2 h4 => h i j h2 (by omega))) hp
  obtain ⟨q, hq⟩ : ∃ q, K = q + 1 := ⟨K - 1, by omega⟩
  unfold f107
  rw [h3]
  by_cases m2 : m < 2
  · have : f107_7 K K 214 (nI m - 2) g = some (0, g) := by
      have e : nI m - 2 < 0 ∧ ¬ (0 : Int32) ≤ nI m - 2 := by
        have : m = 0 ∨ m = 1 := by omega
        rcases this with rfl | rfl <;> decide
      have : ∀ q, f107_7 K (q + 1) 214 (nI m - 2) g = some (0, g) := fun q => by
        rw [f107_7, if_pos e.1]
        unfold f107_38
        rw [if_neg e.2]
      have w := this q
      rw [← hq] at w
      exact w
    exact Or.inr ⟨this, last (fun a b h1 h2 => by omega)⟩
  rw [show nI m - 2 = nI (m - 2) from pk_sub (a := m) (b := 2) (by omega)]
  rcases f107_7_lp (K := K) hm H (m - 2) K (by omega) (by omega) (fun a b h4 h5 h6 => by omega) with ⟨i, i1, i2, i3, i4⟩ | ⟨e1, e2⟩
  · obtain ⟨j, j1, j2, j3, j4, j5⟩ := f107_51_lp (K := K) hm H i3 (m - 1 - (i + 1)) K (m - 1) (by omega) (by omega) (by omega) (fun k h5 h6 => by omega)
    obtain ⟨g', a1, a2, a3⟩ := f107_101_lp (K := K) hm 8 K (i + 1) (m - 1) (zwp c i j) _ (by omega) (by omega) (by omega) (by omega) (by omega) (zHs_sw H (i := i) (j := j) (by omega) j2)
    left
    generalize hc' : (fun k => if i + 1 ≤ k ∧ k ≤ m - 1 then zwp c i j (i + 1 + (m - 1) - k) else zwp c i j k) = c' at a2
    have E0 : zsg c 0 m = zsg c 0 i ++ c i :: (zsg c (i + 1) (j - i - 1) ++ c j :: zsg c (j + 1) (m - j - 1)) := by
      rw [zsg_mid (c := c) (a := 0) (i := i) (n := m) (by omega), Nat.zero_add, zsg_mid (c := c) (a := i + 1) (i := j - i - 1) (n := m - i - 1) (by omega), show i + 1 + (j - i - 1) = j by omega, show m - i - 1 - (j - i - 1) - 1 = m - j - 1 by omega]
    have E1 : zsg c' 0 m = zsg c 0 i ++ c j :: (zsg c (i + 1) (j - i - 1) ++ c i :: zsg c (j + 1) (m - j - 1)).reverse := by
      have r1 : zsg c' 0 i = zsg c 0 i := zsg_c i 0 (fun k h1 h2 => by
        rw [← hc']
        show (if i + 1 ≤ k ∧ k ≤ m - 1 then zwp c i j (i + 1 + (m - 1) - k) else zwp c i j k) = c k
        rw [if_neg (by omega), zwp_o (by omega) (by omega)])
      have r2 : c' i = c j := by
        rw [← hc']
        show (if i + 1 ≤ i ∧ i ≤ m - 1 then zwp c i j (i + 1 + (m - 1) - i) else zwp c i j i) = c j
        rw [if_neg (by omega), zwp_i (by omega)]
      have r3 : zsg c' (i + 1) (m - i - 1) = (zsg (zwp c i j) (i + 1) (m - i - 1)).reverse := zsg_rev _ _ _ (fun k hk => by
        rw [← hc']
        show (if i + 1 ≤ i + 1 + k ∧ i + 1 + k ≤ m - 1 then zwp c i j (i + 1 + (m - 1) - (i + 1 + k)) else zwp c i j (i + 1 + k)) = _
        rw [if_pos (by omega), show i + 1 + (m - 1) - (i + 1 + k) = i + 1 + (m - i - 1 - 1 - k) by omega])
      have r4 : zsg (zwp c i j) (i + 1) (m - i - 1) = zsg c (i + 1) (j - i - 1) ++ c i :: zsg c (j + 1) (m - j - 1) := by
        rw [zsg_mid (c := zwp c i j) (a := i + 1) (i := j - i - 1) (n := m - i - 1) (by omega), show i + 1 + (j - i - 1) = j by omega, show m - i - 1 - (j - i - 1) - 1 = m - j - 1 by omega, zwp_j, zsg_c (c := zwp c i j) (c' := c) (j - i - 1) (i + 1) (fun k h1 h2 => zwp_o (by omega) (by omega)), zsg_c (c := zwp c i j) (c' := c) (m - j - 1) (j + 1) (fun k h1 h2 => zwp_o (by omega) (by omega))]
      rw [zsg_mid (c := c') (a := 0) (i := i) (n := m) (by omega), Nat.zero_add, r1, r2, r3, r4]
    have pw : (zsg c (i + 1) (j - i - 1) ++ c j :: zsg c (j + 1) (m - j - 1)).Pairwise (fun u v => v ≤ u) := by
      have := zsg_pw (c := c) (R := fun u v => v ≤ u) (m - i - 1) (i + 1) (fun a b h1 h2 h4 => i4 a b h1 h2 (by omega))
      rw [zsg_mid (c := c) (a := i + 1) (i := j - i - 1) (n := m - i - 1) (by omega), show i + 1 + (j - i - 1) = j by omega, show m - i - 1 - (j - i - 1) - 1 = m - j - 1 by omega] at this
      exact this
    refine ⟨c', g', ?_, a2, ?_, ?_, fun p hp hl => ?_, fun c hc => by rw [a3 c hc, zup_c hc, zup_c hc]⟩
    · rw [i2]
      unfold f107_38
      rw [if_pos (show (0 : Int32) ≤ nI i from nI_le (a := 0) (by omega) (by omega)), h3, show nI m - 1 = nI (m - 1) from pk_sub (a := m) (b := 1) (by omega), j3]
      unfold f107_83
      rw [f104_eq (by omega) (by omega), zbd_s, nI_1, zup_c (by decide), zup_c (by decide), h3, show nI m - 1 = nI (m - 1) from pk_sub (a := m) (b := 1) (by omega)]
      exact a1
    · rw [E0, E1]
      exact znx_perm
    · rw [E0, E1]
      exact zwl_app (zwl_c.mpr (Or.inl j4)) _
    · rw [E0] at hp hl
      rw [E1]
      exact znx_least pw j4 (fun z hz => by
        obtain ⟨k, k1, k2, k3⟩ := zsg_mem _ _ _ hz
        rw [k3]
        exact j5 k (by omega) (by omega)) _ p hp hl
  · exact Or.inr ⟨e1, last e2⟩
