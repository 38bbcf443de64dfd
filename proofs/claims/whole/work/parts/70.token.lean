-- ===== tokens =====
def zso (x : Nat) : Nat := if 97 ≤ x ∧ x ≤ 122 then 1 else if 48 ≤ x ∧ x ≤ 57 then 2 else 0
def zsk (L : Nat → Nat) (m : Nat) : Nat → Nat → Nat
  | 0, i => i
  | d + 1, i => if i < m ∧ L i = 32 then zsk L m d (i + 1) else i
def zex (L : Nat → Nat) (m s : Nat) : Nat → Nat → Nat
  | 0, i => i
  | d + 1, i => if i < m ∧ 0 < zso (L s) ∧ zso (L i) = zso (L s) then zex L m s d (i + 1) else i
/-- where the token behind i begins, where the one at s ends -/
def zBg (L : Nat → Nat) (m i : Nat) : Nat := zsk L m (m - i) i
def zE (L : Nat → Nat) (m s : Nat) : Nat := if s < m then zex L m s (m - (s + 1)) (s + 1) else s
theorem zsk_s {L : Nat → Nat} {m d i : Nat} : zsk L m (d + 1) i = if i < m ∧ L i = 32 then zsk L m d (i + 1) else i := rfl
theorem zex_s {L : Nat → Nat} {m s d i : Nat} : zex L m s (d + 1) i = if i < m ∧ 0 < zso (L s) ∧ zso (L i) = zso (L s) then zex L m s d (i + 1) else i := rfl
theorem zBg_step {L : Nat → Nat} {m i : Nat} (h : i < m) (hb : L i = 32) : zBg L m i = zBg L m (i + 1) := by
  unfold zBg
  rw [show m - i = (m - (i + 1)) + 1 by omega, zsk_s, if_pos ⟨h, hb⟩]
theorem zBg_stop {L : Nat → Nat} {m i : Nat} (h : ¬ (i < m ∧ L i = 32)) : zBg L m i = i := by
  unfold zBg
  cases hd : m - i with
  | zero => rfl
  | succ d => rw [zsk_s, if_neg h]
theorem zBg_le {L : Nat → Nat} {m : Nat} : ∀ {d i : Nat}, m - i = d → i ≤ m → i ≤ zBg L m i ∧ zBg L m i ≤ m := by
  intro d
  induction d with
  | zero => intro i h h2; rw [zBg_stop (by omega)]; omega
  | succ d ih =>
    intro i h h2
    by_cases q : i < m ∧ L i = 32
    · rw [zBg_step q.1 q.2]
      have := ih (i := i + 1) (by omega) (by omega)
      omega
    · rw [zBg_stop q]; omega
theorem zex_le {L : Nat → Nat} {m s : Nat} : ∀ {d i : Nat}, i + d ≤ m → i ≤ zex L m s d i ∧ zex L m s d i ≤ m := by
  intro d
  induction d with
  | zero => intro i h; exact ⟨Nat.le_refl _, h⟩
  | succ d ih =>
    intro i h
    rw [zex_s]
    by_cases q : i < m ∧ 0 < zso (L s) ∧ zso (L i) = zso (L s)
    · rw [if_pos q]
      have := ih (i := i + 1) (by omega)
      omega
    · rw [if_neg q]; omega
theorem zE_le {L : Nat → Nat} {m s : Nat} (h : s ≤ m) : s ≤ zE L m s ∧ zE L m s ≤ m ∧ (s < m → s < zE L m s) := by
  unfold zE
  by_cases q : s < m
  · rw [if_pos q]
    have := @zex_le L m s (m - (s + 1)) (s + 1) (by omega)
    omega
  · rw [if_neg q]; omega
/-- all of a token are of one sort -/
theorem zex_so {L : Nat → Nat} {m s : Nat} : ∀ {d i j : Nat}, i ≤ j → j < zex L m s d i → zso (L j) = zso (L s) := by
  intro d
  induction d with
  | zero =>
    intro i j h1 h2
    have h2 : j < i := h2
    omega
  | succ d ih =>
    intro i j h1 h2
    rw [zex_s] at h2
    by_cases q : i < m ∧ 0 < zso (L s) ∧ zso (L i) = zso (L s)
    · rw [if_pos q] at h2
      by_cases hji : j = i
      · rw [hji]; exact q.2.2
      · exact ih (by omega) h2
    · rw [if_neg q] at h2
      omega
theorem zE_so {L : Nat → Nat} {m s j : Nat} (h1 : s ≤ j) (h2 : j < zE L m s) : zso (L j) = zso (L s) := by
  unfold zE at h2
  by_cases q : s < m
  · rw [if_pos q] at h2
    by_cases hj : j = s
    · rw [hj]
    · exact zex_so (by omega) h2
  · rw [if_neg q] at h2
    omega
theorem zwi_nat {x a b : Nat} (hx : x < 2 ^ 31) (ha : a < 2 ^ 31) (hb : b < 2 ^ 31) : zwi (nI x) (nI a) (nI b) = if a ≤ x ∧ x ≤ b then 1 else 0 := by
  unfold zwi
  by_cases h1 : x < a
  · rw [if_pos (nI_lt h1 ha), if_neg (by omega)]
  · rw [if_neg (nI_nlt (by omega) hx)]
    by_cases h2 : b < x
    · rw [if_pos (nI_lt h2 hx), if_neg (by omega)]
    · rw [if_neg (nI_nlt (by omega) hb), if_pos (by omega)]
theorem f22_eq {K x : Nat} {g : zS} (hx : x < 2 ^ 31) : f22 K (nI x) g = some (nI (zso x), g) := by
  unfold f22 zso
  rw [f12_eq, zbd_s, f12_eq, zbd_s, show zwi (nI x) 97 122 = if 97 ≤ x ∧ x ≤ 122 then 1 else 0 from zwi_nat (a := 97) (b := 122) hx (by omega) (by omega), show zwi (nI x) 48 57 = if 48 ≤ x ∧ x ≤ 57 then 1 else 0 from zwi_nat (a := 48) (b := 57) hx (by omega) (by omega)]
  by_cases h1 : 97 ≤ x ∧ x ≤ 122
  · rw [if_pos h1, if_pos h1, if_neg (by decide)]; rfl
  · rw [if_neg h1, if_neg h1, if_pos rfl]
    by_cases h2 : 48 ≤ x ∧ x ≤ 57
    · rw [if_pos h2, if_pos h2, if_neg (by decide)]; rfl
    · rw [if_neg h2, if_neg h2, if_pos rfl]; rfl
theorem f150_eq {K x : Nat} {g : zS} (hx : x < 2 ^ 31) : f150 K (nI x) g = some (nI (zso x), g) := by
  have h16 : ¬ (97 ≤ x ∧ x ≤ 122) → f150_16 K (nI x) g = some (nI (zso x), g) := by
    intro h
    unfold f150_16 zso
    rw [if_neg h, show (48 : Int32) = nI 48 from rfl, show (57 : Int32) = nI 57 from rfl]
    by_cases h1 : x < 48
    · rw [if_pos (nI_lt h1 (by omega)), if_neg (by omega)]; rfl
    · rw [if_neg (nI_nlt (by omega) hx)]
      by_cases h2 : 57 < x
      · rw [if_pos (nI_lt h2 hx), if_neg (by omega)]; rfl
      · rw [if_neg (nI_nlt (by omega) (by omega)), if_pos (by omega)]; rfl
  unfold f150
  rw [show (97 : Int32) = nI 97 from rfl, show (122 : Int32) = nI 122 from rfl]
  by_cases h1 : x < 97
  · rw [if_pos (nI_lt h1 (by omega)), h16 (by omega)]
  · rw [if_neg (nI_nlt (by omega) hx)]
    by_cases h2 : 122 < x
    · rw [if_pos (nI_lt h2 hx), h16 (by omega)]
    · rw [if_neg (nI_nlt (by omega) (by omega))]
      unfold zso
      rw [if_pos (by omega)]
      rfl
theorem zso_le {x : Nat} : zso x ≤ 2 := by
  unfold zso
  by_cases h1 : 97 ≤ x ∧ x ≤ 122
  · rw [if_pos h1]; omega
  · rw [if_neg h1]
    by_cases h2 : 48 ≤ x ∧ x ≤ 57
    · rw [if_pos h2]; omega
    · rw [if_neg h2]; omega
-- ===== the class's step =====
def zCT (L : Nat → Nat) (m : Nat) (g : zS) : Prop := g 1 1 = nI m ∧ ∀ i, i < m → g 3 i = nI (L i)
theorem f21_2 {K m i : Nat} {L : Nat → Nat} {g : zS} (T : zCT L m g) (hm : m ≤ 160) (hi : i < m) : f21 K 2 (nI i) g = some (nI (L i), g) := by
  rw [f21_eq (by rw [zl3]; omega) (by rw [zl3]; decide), show g (2 + 1) i = nI (L i) from T.2 i hi]
theorem zCT_up {L : Nat → Nat} {m k : Nat} {v : Int32} {g : zS} (T : zCT L m g) (hk : k ≠ 1) : zCT L m (zup g 1 k v) := ⟨by rw [zup_k (by omega)]; exact T.1, fun i hi => by rw [zup_c (by decide)]; exact T.2 i hi⟩
theorem f20_93_lp {K m s : Nat} {L : Nat → Nat} (hm : m ≤ 160) (hL : ∀ i, i < m → L i ≤ 255) (hs : s < m) : ∀ d i q (g : zS), i + d = m → d < q → zCT L m g → g 1 4 = nI i → ∃ g', f20_93 K q (nI (zso (L s))) g = some ((), g') ∧ (∀ c, c ≠ 1 → g' c = g c) ∧ (∀ k, k ≠ 4 → g' 1 k = g 1 k) ∧ g' 1 4 = nI (zex L m s d i) := by
  intro d
  induction d with
  | zero =>
    intro i q g h1 h2 T h4
    obtain ⟨q, rfl⟩ : ∃ z, q = z + 1 := ⟨q - 1, by omega⟩
    refine ⟨g, ?_, fun c _ => rfl, fun k _ => rfl, h4⟩
    rw [f20_93, T.1, h4]
    by_cases z : nI (zso (L s)) = 0
    · rw [if_pos z]
    · rw [if_neg z, if_pos (nI_le (by omega) (by omega))]
  | succ d ih =>
    intro i q g h1 h2 T h4
    obtain ⟨q, rfl⟩ : ∃ z, q = z + 1 := ⟨q - 1, by omega⟩
    have z2 := @zso_le (L s)
    have z3 := @zso_le (L i)
    have l1 := hL i (by omega)
    rw [f20_93, T.1, h4, zex_s]
    by_cases z : zso (L s) = 0
    · rw [if_pos (by rw [z]; rfl), if_neg (by omega)]
      exact ⟨g, rfl, fun c _ => rfl, fun k _ => rfl, h4⟩
    · rw [if_neg (nI_ne0 (by omega) (by omega)), if_neg (nI_ge (by omega) (by omega)), f21_2 T hm (by omega), zbd_s, f22_eq (by omega), zbd_s]
      by_cases y : zso (L i) = zso (L s)
      · rw [if_neg (fun w => w (by rw [y])), if_pos ⟨by omega, by omega, y⟩, h4, nI_1]
        obtain ⟨g', e1, e2, e3, e4⟩ := ih (i + 1) q (zup g 1 4 (nI (i + 1))) (by omega) (by omega) (zCT_up T (by decide)) (zup_s _ _ _ _)
        exact ⟨g', e1, fun c hc => by rw [e2 c hc, zup_c hc], fun k hk => by rw [e3 k hk, zup_k hk], e4⟩
      · rw [if_pos (fun w => y ((nI_eq (by omega) (by omega)).mp w)), if_neg (fun w => y w.2.2)]
        exact ⟨g, rfl, fun c _ => rfl, fun k _ => rfl, h4⟩
theorem f20_48_eq {K m s : Nat} {L : Nat → Nat} {g : zS} (hK : 200 ≤ K) (hm : m ≤ 160) (hL : ∀ i, i < m → L i ≤ 255) (hs : s ≤ m) (T : zCT L m g) (h3 : g 1 3 = nI s) : ∃ g', f20_48 K g = some ((), g') ∧ (∀ c, c ≠ 1 → g' c = g c) ∧ (∀ k, k ≠ 4 → g' 1 k = g 1 k) ∧ g' 1 4 = nI (zE L m s) := by
  have e3 : (zup g 1 4 (g 1 3)) 1 3 = nI s := by rw [zup_k (by decide)]; exact h3
  have e1 : (zup g 1 4 (g 1 3)) 1 1 = nI m := by rw [zup_k (by decide)]; exact T.1
  have T2 := zCT_up (v := g 1 3) T (show (4 : Nat) ≠ 1 by decide)
  unfold f20_48 zE
  rw [e3, e1]
  by_cases z : s < m
  · have l1 := hL s z
    rw [if_pos (nI_lt z (by omega)), f21_2 T2 hm z, zbd_s, f22_eq (by omega), zbd_s, zup_s, h3, nI_1, if_pos z]
    obtain ⟨g', q1, q2, q3, q4⟩ := f20_93_lp (K := K) hm hL z (m - (s + 1)) (s + 1) K (zup (zup g 1 4 (nI s)) 1 4 (nI (s + 1))) (by omega) (by omega) (zCT_up (zCT_up T (by decide)) (by decide)) (zup_s _ _ _ _)
    exact ⟨g', q1, fun c hc => by rw [q2 c hc, zup_c hc, zup_c hc], fun k hk => by rw [q3 k hk, zup_k hk, zup_k hk], q4⟩
  · rw [if_neg (nI_nlt (by omega) (by omega)), if_neg z]
    exact ⟨_, rfl, fun c hc => zup_c hc, fun k hk => zup_k hk, by rw [zup_s, h3]⟩
theorem f20_lp {K m : Nat} {L : Nat → Nat} (hK : 200 ≤ K) (hm : m ≤ 160) (hL : ∀ i, i < m → L i ≤ 255) : ∀ d i q (g : zS), i + d = m → d < q → zCT L m g → g 1 3 = nI i → ∃ g', f20_8 K q g = some ((), g') ∧ (∀ c, c ≠ 1 → g' c = g c) ∧ (∀ k, k ≠ 3 → k ≠ 4 → g' 1 k = g 1 k) ∧ g' 1 3 = nI (zBg L m i) ∧ g' 1 4 = nI (zE L m (zBg L m i)) := by
  intro d
  induction d with
  | zero =>
    intro i q g h1 h2 T h3
    obtain ⟨q, rfl⟩ : ∃ z, q = z + 1 := ⟨q - 1, by omega⟩
    obtain ⟨g', e1, e2, e3, e4⟩ := f20_48_eq hK hm hL (show i ≤ m by omega) T h3
    rw [zBg_stop (by omega)]
    refine ⟨g', ?_, e2, fun k _ hk => e3 k hk, by rw [e3 3 (by decide)]; exact h3, e4⟩
    rw [f20_8, T.1, h3, if_pos (nI_le (by omega) (by omega)), e1]
  | succ d ih =>
    intro i q g h1 h2 T h3
    obtain ⟨q, rfl⟩ : ∃ z, q = z + 1 := ⟨q - 1, by omega⟩
    have l1 := hL i (by omega)
    rw [f20_8, T.1, h3, if_neg (nI_ge (by omega) (by omega)), f21_2 T hm (by omega), zbd_s]
    by_cases y : L i = 32
    · rw [if_neg (fun w => w (by rw [y]; rfl)), h3, nI_1, zBg_step (by omega) y]
      obtain ⟨g', e1, e2, e3, e4⟩ := ih (i + 1) q (zup g 1 3 (nI (i + 1))) (by omega) (by omega) (zCT_up T (by decide)) (zup_s _ _ _ _)
      exact ⟨g', e1, fun c hc => by rw [e2 c hc, zup_c hc], fun k hk hk2 => by rw [e3 k hk hk2, zup_k hk], e4⟩
    · obtain ⟨g', e1, e2, e3, e4⟩ := f20_48_eq hK hm hL (show i ≤ m by omega) T h3
      rw [if_pos (show ¬ nI (L i) = 32 from fun w => y ((nI_eq (b := 32) (by omega) (by omega)).mp w)), zBg_stop (fun w => y w.2)]
      exact ⟨g', e1, e2, fun k _ hk => e3 k hk, by rw [e3 3 (by decide)]; exact h3, e4⟩
theorem f20_sp {K m i : Nat} {L : Nat → Nat} {g : zS} (hK : 200 ≤ K) (hm : m ≤ 160) (hL : ∀ i, i < m → L i ≤ 255) (hi : i ≤ m) (T : zCT L m g) (h4 : g 1 4 = nI i) : ∃ g', f20 K g = some ((), g') ∧ (∀ c, c ≠ 1 → g' c = g c) ∧ (∀ k, k ≠ 3 → k ≠ 4 → g' 1 k = g 1 k) ∧ g' 1 3 = nI (zBg L m i) ∧ g' 1 4 = nI (zE L m (zBg L m i)) := by
  obtain ⟨g', e1, e2, e3, e4⟩ := f20_lp (K := K) hK hm hL (m - i) i K (zup g 1 3 (nI i)) (by omega) (by omega) (zCT_up T (by decide)) (zup_s _ _ _ _)
  refine ⟨g', ?_, fun c hc => by rw [e2 c hc, zup_c hc], fun k hk hk2 => by rw [e3 k hk hk2, zup_k hk], e4⟩
  unfold f20
  rw [h4]
  exact e1
-- ===== the reference's token =====
def zRT (L : Nat → Nat) (m : Nat) (g : zS) : Prop := g 222 4 = nI m ∧ ∀ i, i < m → g 225 i = nI (L i)
theorem zRT_up {L : Nat → Nat} {m k : Nat} {v : Int32} {g : zS} (T : zRT L m g) (hk : k ≠ 4) : zRT L m (zup g 222 k v) := ⟨by rw [zup_k (by omega)]; exact T.1, fun i hi => by rw [zup_c (by decide)]; exact T.2 i hi⟩
theorem f149_71_lp {K m s : Nat} {L : Nat → Nat} (hm : m ≤ 160) (hL : ∀ i, i < m → L i ≤ 255) (hs : s ≤ m) : ∀ d i q (g : zS), i + d = m → d < q → s < m ∨ d = 0 → zRT L m g → g 222 22 = nI i → g 222 23 = nI s → ∃ g', f149_71 K q g = some ((), g') ∧ (∀ c, c ≠ 222 → g' c = g c) ∧ (∀ k, k ≠ 22 → k ≠ 24 → g' 222 k = g 222 k) ∧ g' 222 22 = nI (zex L m s d i) ∧ g' 222 24 = nI (zex L m s d i) := by
  intro d
  induction d with
  | zero =>
    intro i q g h1 h2 h5 T h3 h4
    obtain ⟨q, rfl⟩ : ∃ z, q = z + 1 := ⟨q - 1, by omega⟩
    refine ⟨zup g 222 24 (nI i), ?_, fun c hc => zup_c hc, fun k _ hk => zup_k hk, by rw [zup_k (by decide)]; exact h3, zup_s _ _ _ _⟩
    rw [f149_71, T.1, h3, if_pos (nI_le (by omega) (by omega))]
  | succ d ih =>
    intro i q g h1 h2 h5 T h3 h4
    obtain ⟨q, rfl⟩ : ∃ z, q = z + 1 := ⟨q - 1, by omega⟩
    have hsm : s < m := by omega
    have z2 := @zso_le (L s)
    have z3 := @zso_le (L i)
    have l1 := hL i (by omega)
    have l2 := hL s hsm
    rw [f149_71, T.1, h3, h4, if_neg (nI_ge (by omega) (by omega)), if_pos (zin_i (show s < 160 by omega) (by decide)), nI_clamp (show s < 2 ^ 31 by omega), T.2 s hsm, f150_eq (by omega), zbd_s, zex_s]
    by_cases z : zso (L s) = 0
    · rw [if_pos (by rw [z]; decide), if_neg (show ¬ (i < m ∧ 0 < zso (L s) ∧ zso (L i) = zso (L s)) by omega), h3]
      exact ⟨_, rfl, fun c hc => zup_c hc, fun k _ hk => zup_k hk, by rw [zup_k (by decide)]; exact h3, zup_s _ _ _ _⟩
    · rw [if_neg (nI_nle (by omega) (by omega)), h3, if_pos (zin_i (show i < 160 by omega) (by decide)), nI_clamp (show i < 2 ^ 31 by omega), T.2 i (by omega), f150_eq (by omega), zbd_s, h4, if_pos (zin_i (show s < 160 by omega) (by decide)), nI_clamp (show s < 2 ^ 31 by omega), T.2 s hsm, f150_eq (by omega), zbd_s]
      by_cases y : zso (L i) = zso (L s)
      · rw [if_neg (fun w => w (by rw [y])), if_pos (show i < m ∧ 0 < zso (L s) ∧ zso (L i) = zso (L s) from ⟨by omega, by omega, y⟩), h3, nI_1]
        obtain ⟨g', e1, e2, e3, e4⟩ := ih (i + 1) q (zup g 222 22 (nI (i + 1))) (by omega) (by omega) (Or.inl hsm) (zRT_up T (by decide)) (zup_s _ _ _ _) (by rw [zup_k (by decide)]; exact h4)
        exact ⟨g', e1, fun c hc => by rw [e2 c hc, zup_c hc], fun k hk hk2 => by rw [e3 k hk hk2, zup_k hk], e4⟩
      · rw [if_pos (fun w => y ((nI_eq (by omega) (by omega)).mp w)), if_neg (show ¬ (i < m ∧ 0 < zso (L s) ∧ zso (L i) = zso (L s)) from fun w => y w.2.2), h3]
        exact ⟨_, rfl, fun c hc => zup_c hc, fun k _ hk => zup_k hk, by rw [zup_k (by decide)]; exact h3, zup_s _ _ _ _⟩
theorem f149_38_eq {K m s : Nat} {L : Nat → Nat} {g : zS} (hK : 200 ≤ K) (hm : m ≤ 160) (hL : ∀ i, i < m → L i ≤ 255) (hs : s ≤ m) (T : zRT L m g) (h3 : g 222 22 = nI s) : ∃ g', f149_38 K g = some ((), g') ∧ (∀ c, c ≠ 222 → g' c = g c) ∧ (∀ k, k ≠ 22 → k ≠ 23 → k ≠ 24 → g' 222 k = g 222 k) ∧ g' 222 22 = nI (zE L m s) ∧ g' 222 23 = nI s ∧ g' 222 24 = nI (zE L m s) := by
  have T2 := zRT_up (v := nI s) T (show (23 : Nat) ≠ 4 by decide)
  have e22 : (zup g 222 23 (nI s)) 222 22 = nI s := by rw [zup_k (by decide)]; exact h3
  unfold f149_38 f149_67 zE
  rw [h3, T2.1, e22]
  by_cases z : s < m
  · rw [if_neg (nI_ge z (by omega)), if_pos z, nI_1]
    obtain ⟨g', q1, q2, q3, q4, q5⟩ := f149_71_lp (K := K) hm hL hs (m - (s + 1)) (s + 1) K (zup (zup g 222 23 (nI s)) 222 22 (nI (s + 1))) (by omega) (by omega) (Or.inl z) (zRT_up T2 (by decide)) (zup_s _ _ _ _) (by rw [zup_k (by decide), zup_s])
    exact ⟨g', q1, fun c hc => by rw [q2 c hc, zup_c hc, zup_c hc], fun k k1 k2 k3 => by rw [q3 k k1 k3, zup_k k1, zup_k k2], q4, by rw [q3 23 (by decide) (by decide), zup_k (by decide), zup_s], q5⟩
  · rw [if_pos (nI_le (by omega) (by omega)), if_neg z, Int32.add_zero]
    obtain ⟨g', q1, q2, q3, q4, q5⟩ := f149_71_lp (K := K) hm hL hs 0 s K (zup (zup g 222 23 (nI s)) 222 22 (nI s)) (by omega) (by omega) (Or.inr rfl) (zRT_up T2 (by decide)) (zup_s _ _ _ _) (by rw [zup_k (by decide), zup_s])
    exact ⟨g', q1, fun c hc => by rw [q2 c hc, zup_c hc, zup_c hc], fun k k1 k2 k3 => by rw [q3 k k1 k3, zup_k k1, zup_k k2], q4, by rw [q3 23 (by decide) (by decide), zup_k (by decide), zup_s], q5⟩
theorem f149_lp {K m : Nat} {L : Nat → Nat} (hK : 200 ≤ K) (hm : m ≤ 160) (hL : ∀ i, i < m → L i ≤ 255) : ∀ d i q (g : zS), i + d = m → d < q → zRT L m g → g 222 22 = nI i → ∃ g', f149_0 K q g = some ((), g') ∧ (∀ c, c ≠ 222 → g' c = g c) ∧ (∀ k, k ≠ 22 → k ≠ 23 → k ≠ 24 → g' 222 k = g 222 k) ∧ g' 222 22 = nI (zE L m (zBg L m i)) ∧ g' 222 23 = nI (zBg L m i) ∧ g' 222 24 = nI (zE L m (zBg L m i)) := by
  intro d
  induction d with
  | zero =>
    intro i q g h1 h2 T h3
    obtain ⟨q, rfl⟩ : ∃ z, q = z + 1 := ⟨q - 1, by omega⟩
    rw [f149_0, T.1, h3, if_pos (nI_le (by omega) (by omega)), zBg_stop (by omega)]
    exact f149_38_eq hK hm hL (by omega) T h3
  | succ d ih =>
    intro i q g h1 h2 T h3
    obtain ⟨q, rfl⟩ : ∃ z, q = z + 1 := ⟨q - 1, by omega⟩
    have l1 := hL i (by omega)
    rw [f149_0, T.1, h3, if_neg (nI_ge (by omega) (by omega)), if_pos (zin_i (show i < 160 by omega) (by decide)), nI_clamp (show i < 2 ^ 31 by omega), T.2 i (by omega)]
    by_cases y : L i = 32
    · rw [if_neg (fun w => w (by rw [y]; rfl)), nI_1, zBg_step (by omega) y]
      obtain ⟨g', e1, e2, e3, e4⟩ := ih (i + 1) q (zup g 222 22 (nI (i + 1))) (by omega) (by omega) (zRT_up T (by decide)) (zup_s _ _ _ _)
      exact ⟨g', e1, fun c hc => by rw [e2 c hc, zup_c hc], fun k k1 k2 k3 => by rw [e3 k k1 k2 k3, zup_k k1], e4⟩
    · rw [if_pos (show ¬ nI (L i) = 32 from fun w => y ((nI_eq (b := 32) (by omega) (by omega)).mp w)), zBg_stop (fun w => y w.2)]
      exact f149_38_eq hK hm hL (by omega) T h3
theorem f149_sp {K m i : Nat} {L : Nat → Nat} {g : zS} (hK : 200 ≤ K) (hm : m ≤ 160) (hL : ∀ i, i < m → L i ≤ 255) (hi : i ≤ m) (T : zRT L m g) (h3 : g 222 22 = nI i) : ∃ g', f149 K g = some ((), g') ∧ (∀ c, c ≠ 222 → g' c = g c) ∧ (∀ k, k ≠ 22 → k ≠ 23 → k ≠ 24 → g' 222 k = g 222 k) ∧ g' 222 22 = nI (zE L m (zBg L m i)) ∧ g' 222 23 = nI (zBg L m i) ∧ g' 222 24 = nI (zE L m (zBg L m i)) := f149_lp (K := K) hK hm hL (m - i) i K g (by omega) (by omega) T h3
-- ===== numbers =====
/-- the number at s: 100 for none -/
def zNm (L : Nat → Nat) (m s : Nat) : Nat := if s < m ∧ zso (L s) = 2 ∧ zE L m s - s ≤ 2 then (if zE L m s - s = 1 then L s - 48 else 10 * (L s - 48) + (L (s + 1) - 48)) else 100
theorem zso_2 {x : Nat} (h : zso x = 2) : 48 ≤ x ∧ x ≤ 57 := by
  unfold zso at h
  by_cases h1 : 97 ≤ x ∧ x ≤ 122
  · rw [if_pos h1] at h; omega
  · rw [if_neg h1] at h
    by_cases h2 : 48 ≤ x ∧ x ≤ 57
    · exact h2
    · rw [if_neg h2] at h; omega
theorem zNm_99 {L : Nat → Nat} {m s : Nat} (hs : s ≤ m) (h : s < m ∧ zso (L s) = 2 ∧ zE L m s - s ≤ 2) : zNm L m s ≤ 99 := by
  obtain ⟨e1, e2, e3⟩ := zE_le (L := L) hs
  have d1 := zso_2 h.2.1
  unfold zNm
  rw [if_pos h]
  by_cases q : zE L m s - s = 1
  · rw [if_pos q]; omega
  · rw [if_neg q]
    have := e3 h.1
    have d2 := zso_2 ((zE_so (L := L) (m := m) (s := s) (j := s + 1) (by omega) (by omega)).trans h.2.1)
    omega
