-- ===== numbers, both =====
theorem f38_sp {K m s : Nat} {L : Nat → Nat} {x : Int32} {g : zS} (hm : m ≤ 160) (hL : ∀ i, i < m → L i ≤ 255) (hs : s ≤ m) (T : zCT L m g) (h3 : g 1 3 = nI s) (h4 : g 1 4 = nI (zE L m s)) : f38 K x g = some (if zNm L m s = 100 ∨ x < nI (zNm L m s) then -1 else nI (zNm L m s), g) := by
  obtain ⟨e1, e2, e3⟩ := zE_le (L := L) hs
  have fin : ∀ v : Nat, v ≤ 99 → f38_82 K x (nI v) g = some (if v = 100 ∨ x < nI v then -1 else nI v, g) := by
    intro v hv
    unfold f38_82
    by_cases y : x < nI v
    · rw [if_pos y, if_pos (Or.inr y)]
    · rw [if_neg y, if_neg (fun w => by rcases w with w | w; omega; exact y w)]
  unfold f38
  rw [h3, h4, pk_sub e1]
  by_cases q0 : zE L m s - s < 1
  · have : zNm L m s = 100 := if_neg (fun w => by have := e3 w.1; omega)
    rw [if_pos (show nI (zE L m s - s) < 1 from nI_lt (b := 1) q0 (by omega)), this, if_pos (Or.inl rfl)]
  rw [if_neg (show ¬ nI (zE L m s - s) < 1 from nI_nlt (b := 1) (by omega) (by omega))]
  by_cases q2 : 2 < zE L m s - s
  · have : zNm L m s = 100 := if_neg (fun w => by have := w.2.2; omega)
    rw [if_pos (show 2 < nI (zE L m s - s) from nI_lt (a := 2) q2 (by omega)), this, if_pos (Or.inl rfl)]
  have hsm : s < m := by omega
  have l1 := hL s hsm
  rw [if_neg (show ¬ 2 < nI (zE L m s - s) from nI_nlt (a := 2) (by omega) (by omega)), f21_2 T hm hsm, zbd_s, f22_eq (by omega), zbd_s]
  by_cases q3 : zso (L s) = 2
  · have hc : s < m ∧ zso (L s) = 2 ∧ zE L m s - s ≤ 2 := ⟨hsm, q3, by omega⟩
    rw [if_pos (show nI (zso (L s)) = 2 by rw [q3]; rfl), h3]
    have hv : zNm L m s = if zE L m s - s = 1 then L s - 48 else 10 * (L s - 48) + (L (s + 1) - 48) := if_pos hc
    have h99 := zNm_99 hs hc
    have d1 := zso_2 q3
    rw [f21_2 T hm hsm, zbd_s, show nI (L s) - 48 = nI (L s - 48) from pk_sub (a := L s) (b := 48) (by omega)]
    by_cases q4 : zE L m s - s = 2
    · have d2 := zso_2 ((zE_so (L := L) (m := m) (s := s) (j := s + 1) (by omega) (by omega)).trans q3)
      rw [if_neg (fun w => w (by rw [q4]; rfl)), h3, nI_1, f21_2 T hm (by omega), zbd_s]
      rw [if_neg (by omega)] at hv
      have e : (10 * nI (L s - 48) + nI (L (s + 1))) - 48 = nI (zNm L m s) := by
        rw [hv, show (10 : Int32) = nI 10 from rfl, nI_mu, nI_add]
        have := pk_sub (a := 10 * (L s - 48) + L (s + 1)) (b := 48) (by omega)
        rw [show 10 * (L s - 48) + L (s + 1) - 48 = 10 * (L s - 48) + (L (s + 1) - 48) by omega] at this
        exact this
      rw [e]
      exact fin _ h99
    · rw [if_pos (show ¬ nI (zE L m s - s) = 2 from fun w => q4 ((nI_eq (b := 2) (by omega) (by omega)).mp w))]
      rw [if_pos (by omega)] at hv
      rw [← hv]
      exact fin _ h99
  · have : zNm L m s = 100 := if_neg (fun w => q3 w.2.1)
    have z2 := @zso_le (L s)
    rw [if_neg (show ¬ nI (zso (L s)) = 2 from fun w => q3 ((nI_eq (b := 2) (by omega) (by omega)).mp w)), this, if_pos (Or.inl rfl)]
theorem f159_51_eq {K m s k r : Nat} {L : Nat → Nat} {x : Int32} {g : zS} (hK : 20 ≤ K) (hm : m ≤ 160) (hL : ∀ i, i < m → L i ≤ 255) (hs : s < m) (T : zRT L m g) (h4 : g 222 24 = nI (zE L m s)) (hr : g 222 6 = nI r) (hi : 4 * r + 1 + k < 56) (hc : s < m ∧ zso (L s) = 2 ∧ zE L m s - s ≤ 2) : f159_51 K K (nI k) 0 x 0 (nI s) g = if x < nI (zNm L m s) then some (0, g) else zbd (f149 K (zup g 226 (4 * r + 1 + k) (nI (zNm L m s)))) fun _ g140 => some (1, g140) := by
  obtain ⟨K, rfl⟩ : ∃ q, K = q + 3 := ⟨K - 3, by omega⟩
  obtain ⟨e1, e2, e3⟩ := zE_le (L := L) (show s ≤ m by omega)
  have e3 := e3 hs
  have h99 := zNm_99 (show s ≤ m by omega) hc
  have d1 := zso_2 hc.2.1
  have l1 := hL s hs
  have fin : ∀ n v, v ≤ 99 → f159_51 (K + 3) (n + 1) (nI k) 0 x (nI v) (nI (zE L m s)) g = if x < nI v then some (0, g) else zbd (f149 (K + 3) (zup g 226 (4 * r + 1 + k) (nI v))) fun _ g140 => some (1, g140) := by
    intro n v hv
    rw [f159_51, h4, if_pos (nI_le (Nat.le_refl _) (by omega)), f146_eq, zbd_s, hr, show (4 : Int32) = nI 4 from rfl, nI_mu, nI_lit1, nI_add, nI_add, if_pos (zin_i hi (by decide)), nI_clamp (by omega)]
    unfold zwi
    rw [if_neg (nI_pos (by omega))]
    by_cases y : x < nI v
    · rw [if_pos y, if_pos y, if_neg (show ¬ ¬ (0 : Int32) = 0 from fun w => w rfl)]
    · rw [if_neg y, if_neg y, if_pos (show ¬ (1 : Int32) = 0 by decide)]
  have hv : zNm L m s = if zE L m s - s = 1 then L s - 48 else 10 * (L s - 48) + (L (s + 1) - 48) := if_pos hc
  have st1 : f159_51 (K + 3) (K + 3) (nI k) 0 x 0 (nI s) g = f159_51 (K + 3) (K + 2) (nI k) 0 x (nI (L s - 48)) (nI (s + 1)) g := by
    rw [show K + 3 = (K + 2) + 1 by omega, f159_51, h4, if_neg (nI_ge (by omega) (by omega)), if_pos (zin_i (show s < 160 by omega) (by decide)), nI_clamp (show s < 2 ^ 31 by omega), T.2 s hs, nI_1]
    have : (10 * (0 : Int32)) + nI (L s) - 48 = nI (L s - 48) := by
      rw [show (10 : Int32) * 0 = 0 by decide, Int32.zero_add]
      exact pk_sub (a := L s) (b := 48) (by omega)
    rw [this]
  rw [st1]
  by_cases q4 : zE L m s - s = 2
  · have d2 := zso_2 ((zE_so (L := L) (m := m) (s := s) (j := s + 1) (by omega) (by omega)).trans hc.2.1)
    rw [if_neg (by omega)] at hv
    have st2 : f159_51 (K + 3) (K + 2) (nI k) 0 x (nI (L s - 48)) (nI (s + 1)) g = f159_51 (K + 3) (K + 1) (nI k) 0 x (nI (zNm L m s)) (nI (zE L m s)) g := by
      rw [show K + 2 = (K + 1) + 1 by omega, f159_51, h4, if_neg (nI_ge (by omega) (by omega)), if_pos (zin_i (show s + 1 < 160 by omega) (by decide)), nI_clamp (show s + 1 < 2 ^ 31 by omega), T.2 (s + 1) (by omega), nI_1, show s + 1 + 1 = zE L m s by omega]
      have : (10 * nI (L s - 48)) + nI (L (s + 1)) - 48 = nI (zNm L m s) := by
        rw [hv, show (10 : Int32) = nI 10 from rfl, nI_mu, nI_add]
        have := pk_sub (a := 10 * (L s - 48) + L (s + 1)) (b := 48) (by omega)
        rw [show 10 * (L s - 48) + L (s + 1) - 48 = 10 * (L s - 48) + (L (s + 1) - 48) by omega] at this
        exact this
      rw [this]
    rw [st2]
    exact fin K _ h99
  · rw [if_pos (by omega)] at hv
    rw [show s + 1 = zE L m s by omega, ← hv]
    exact fin (K + 1) _ h99
/-- reads -/
theorem f159_sp {K m s k r : Nat} {L : Nat → Nat} {x : Int32} {g : zS} (hK : 20 ≤ K) (hm : m ≤ 160) (hL : ∀ i, i < m → L i ≤ 255) (hs : s ≤ m) (T : zRT L m g) (h3 : g 222 23 = nI s) (h4 : g 222 24 = nI (zE L m s)) (hr : g 222 6 = nI r) (hi : 4 * r + 1 + k < 56) : f159 K (nI k) 0 x g = if zNm L m s = 100 ∨ x < nI (zNm L m s) then some (0, g) else zbd (f149 K (zup g 226 (4 * r + 1 + k) (nI (zNm L m s)))) fun _ g140 => some (1, g140) := by
  obtain ⟨e1, e2, e3⟩ := zE_le (L := L) hs
  unfold f159
  rw [h3, T.1]
  by_cases q0 : s = m
  · have : zNm L m s = 100 := if_neg (fun w => by omega)
    rw [if_pos (by rw [q0]), this, if_pos (Or.inl rfl)]
  have hsm : s < m := by omega
  have l1 := hL s hsm
  have z2 := @zso_le (L s)
  rw [if_neg (fun w => q0 ((nI_eq (by omega) (by omega)).mp w)), if_pos (zin_i (show s < 160 by omega) (by decide)), nI_clamp (show s < 2 ^ 31 by omega), T.2 s hsm, f150_eq (by omega), zbd_s, h3, h4, pk_sub e1]
  by_cases q3 : zso (L s) = 2
  · rw [if_neg (fun w => w (by rw [q3]; rfl))]
    by_cases q2 : zE L m s - s ≤ 2
    · have hc : s < m ∧ zso (L s) = 2 ∧ zE L m s - s ≤ 2 := ⟨hsm, q3, q2⟩
      have h99 := zNm_99 hs hc
      rw [if_pos (show nI (zE L m s - s) ≤ 2 from nI_le (b := 2) q2 (by omega)), f159_51_eq hK hm hL hsm T h4 hr hi hc]
      by_cases y : x < nI (zNm L m s)
      · rw [if_pos y, if_pos (Or.inr y)]
      · rw [if_neg y, if_neg (fun w => by rcases w with w | w; omega; exact y w)]
    · have : zNm L m s = 100 := if_neg (fun w => q2 w.2.2)
      rw [if_neg (show ¬ nI (zE L m s - s) ≤ 2 from nI_ge (a := 2) (by omega) (by omega)), this, if_pos (Or.inl rfl)]
  · have : zNm L m s = 100 := if_neg (fun w => q3 w.2.1)
    rw [if_pos (show ¬ nI (zso (L s)) = 2 from fun w => q3 ((nI_eq (b := 2) (by omega) (by omega)).mp w)), this, if_pos (Or.inl rfl)]
-- ===== what a clause is called =====
def zWl : List (List Nat) := [[114, 101, 97, 108, 109], [110, 111, 117, 110], [112, 108, 97, 105, 110], [99, 111, 108, 111, 117, 114], [104, 97, 108, 102], [110, 97, 109, 101], [99, 104, 97, 110, 103, 101], [99, 105, 116, 105, 122, 101, 110], [108, 111, 118, 101, 114], [99, 114, 105, 116, 105, 99], [112, 111, 101, 116], [114, 97, 116, 105, 111, 110], [110, 97, 109, 101, 115], [116, 119, 105, 99, 101], [115, 119, 101, 108, 108], [109, 105, 108, 100]]
def zWo : List Nat := [0, 6, 11, 17, 24, 29, 34, 41, 49, 55, 62, 67, 74, 80, 86, 92, 97]
def zWc (c t : Nat) : Nat := (zWl.getD c []).getD t 0
def zWn (c : Nat) : Nat := (zWl.getD c []).length
def zOf (c : Nat) : Nat := zWo.getD c 0
theorem zW_1 : ∀ c, c < 16 → ∀ t, t < zWn c → zbyt (zOf c + t) = nI (zWc c t) ∧ ¬ zbyt (zOf c + t) = 32 ∧ zWc c t < 128 := by decide +kernel
theorem zW_2 : ∀ c, c < 16 → zbyt (zOf c + zWn c) = 32 ∧ zOf c + zWn c + 1 = zOf (c + 1) ∧ zOf (c + 1) ≤ 97 ∧ zWn c ≤ 7 := by decide +kernel
theorem zW_3 : ∀ c, c < 16 → ∀ d, d < 16 → c = d ∨ ¬ zWn c = zWn d ∨ ∃ t, t < zWn c ∧ ¬ zWc c t = zWc d t := by decide +kernel
/-- the first j letters at s are those of word c -/
def zpx (L : Nat → Nat) (s e c : Nat) : Nat → Bool
  | 0 => true
  | j + 1 => zpx L s e c j && (decide (s + j < e) && decide (L (s + j) = zWc c j))
theorem zpx_s {L : Nat → Nat} {s e c j : Nat} : zpx L s e c (j + 1) = (zpx L s e c j && (decide (s + j < e) && decide (L (s + j) = zWc c j))) := rfl
def zmt (L : Nat → Nat) (s e c : Nat) : Bool := zpx L s e c (zWn c) && decide (s + zWn c = e)
theorem zpx_t {L : Nat → Nat} {s e c : Nat} : ∀ {j : Nat}, zpx L s e c j = true → ∀ t, t < j → s + t < e ∧ L (s + t) = zWc c t := by
  intro j
  induction j with
  | zero => intro _ t ht; omega
  | succ j ih =>
    intro h t ht
    rw [zpx_s, Bool.and_eq_true, Bool.and_eq_true, decide_eq_true_iff, decide_eq_true_iff] at h
    by_cases q : t = j
    · rw [q]; exact h.2
    · exact ih h.1 t (by omega)
theorem zmt_u {L : Nat → Nat} {s e c d : Nat} (hc : c < 16) (hd : d < 16) (h1 : zmt L s e c = true) (h2 : zmt L s e d = true) : c = d := by
  unfold zmt at h1 h2
  rw [Bool.and_eq_true, decide_eq_true_iff] at h1 h2
  rcases zW_3 c hc d hd with h | h | ⟨t, t1, t2⟩
  · exact h
  · omega
  · have a := (zpx_t h1.1 t t1).2
    have b := (zpx_t h2.1 t (by omega)).2
    exact absurd (a.symm.trans b) t2
def zfw (L : Nat → Nat) (s e : Nat) : Nat → Nat → Nat
  | 0, _ => 16
  | d + 1, c => if zmt L s e c = true then c else zfw L s e d (c + 1)
theorem zfw_s {L : Nat → Nat} {s e d c : Nat} : zfw L s e (d + 1) c = if zmt L s e c = true then c else zfw L s e d (c + 1) := rfl
/-- the clause whose name is the token -/
def zcw (L : Nat → Nat) (s e : Nat) : Nat := zfw L s e 16 0
theorem zfw_m {L : Nat → Nat} {s e : Nat} : ∀ {d c : Nat}, c + d = 16 → (zfw L s e d c < 16 → zmt L s e (zfw L s e d c) = true) ∧ (∀ k, c ≤ k → k < 16 → zmt L s e k = true → zfw L s e d c < 16) ∧ zfw L s e d c ≤ 16 := by
  intro d
  induction d with
  | zero =>
    intro c h
    exact ⟨fun q => absurd q (Nat.lt_irrefl 16), fun k k1 k2 => by omega, Nat.le_refl _⟩
  | succ d ih =>
    intro c h
    rw [zfw_s]
    by_cases q : zmt L s e c = true
    · rw [if_pos q]
      exact ⟨fun _ => q, fun k k1 k2 k3 => by omega, by omega⟩
    · rw [if_neg q]
      obtain ⟨i1, i2, i3⟩ := ih (c := c + 1) (by omega)
      refine ⟨i1, fun k k1 k2 k3 => i2 k ?_ k2 k3, i3⟩
      by_cases z : k = c
      · rw [z] at k3; exact absurd k3 q
      · omega
theorem zcw_le {L : Nat → Nat} {s e : Nat} : zcw L s e ≤ 16 := (zfw_m (d := 16) (c := 0) rfl).2.2
theorem zcw_i {L : Nat → Nat} {s e k : Nat} (hk : k < 16) : zmt L s e k = decide (zcw L s e = k) := by
  obtain ⟨i1, i2, i3⟩ := @zfw_m L s e 16 0 rfl
  refine zdec ⟨fun h => ?_, fun h => ?_⟩
  · have h2 := i2 k (by omega) hk h
    exact zmt_u h2 hk (i1 h2) h
  · rw [← h]
    refine i1 ?_
    have : zfw L s e 16 0 = k := h
    omega
theorem f24_ch {K m s c t n : Nat} {L : Nat → Nat} {g : zS} (hm : m ≤ 160) (hL : ∀ i, i < m → L i ≤ 255) (hs : s ≤ m) (T : zCT L m g) (h4 : g 1 4 = nI (zE L m s)) (hc : c < 16) (ht : t < zWn c) : f24_16 K (n + 1) (nI c) (nI (s + t)) (nI (zpx L s (zE L m s) c t).toNat) (nI (zOf c + t)) g = f24_16 K n (nI c) (nI (s + (t + 1))) (nI (zpx L s (zE L m s) c (t + 1)).toNat) (nI (zOf c + (t + 1))) g := by
  obtain ⟨w1, w2, w3⟩ := zW_1 c hc t ht
  obtain ⟨v1, v2, v3, v4⟩ := zW_2 c hc
  obtain ⟨e1, e2, e3⟩ := zE_le (L := L) hs
  rw [f24_16, show (97 : Int32) = nI 97 from rfl, if_neg (nI_ge (by omega) (by omega)), if_pos (zin_i (show zOf c + t < 97 by omega) (by decide)), nI_clamp (show zOf c + t < 2 ^ 31 by omega), if_neg w2, zpx_s]
  unfold f24_70 f24_71 f24_105
  rw [nI_1, nI_1, show s + t + 1 = s + (t + 1) by omega, show zOf c + t + 1 = zOf c + (t + 1) by omega, h4]
  cases hz : zpx L s (zE L m s) c t with
  | false => rw [if_pos (by decide), Bool.false_and]; rfl
  | true =>
    rw [if_neg (by decide), Bool.true_and]
    by_cases y : s + t < zE L m s
    · have l1 := hL (s + t) (by omega)
      rw [if_neg (nI_ge y (by omega)), f21_2 T hm (by omega), zbd_s, w1, decide_eq_true y, Bool.true_and]
      by_cases u : L (s + t) = zWc c t
      · rw [if_neg (fun w => w (by rw [u])), decide_eq_true u]; rfl
      · rw [if_pos (fun w => u ((nI_eq (by omega) (by omega)).mp w)), decide_eq_false u]; rfl
    · rw [if_pos (nI_le (by omega) (by omega)), decide_eq_false y, Bool.false_and]; rfl
theorem f24_wd {K m s c n : Nat} {L : Nat → Nat} {g : zS} (hm : m ≤ 160) (hL : ∀ i, i < m → L i ≤ 255) (hs : s ≤ m) (T : zCT L m g) (h4 : g 1 4 = nI (zE L m s)) (hc : c < 16) : ∀ d t, t + d = zWn c → f24_16 K (n + d) (nI c) (nI (s + t)) (nI (zpx L s (zE L m s) c t).toNat) (nI (zOf c + t)) g = f24_16 K n (nI c) (nI (s + zWn c)) (nI (zpx L s (zE L m s) c (zWn c)).toNat) (nI (zOf c + zWn c)) g := by
  intro d
  induction d with
  | zero => intro t h; rw [show t = zWn c by omega]; rfl
  | succ d ih =>
    intro t h
    rw [show n + (d + 1) = (n + d) + 1 by omega, f24_ch hm hL hs T h4 hc (by omega)]
    exact ih (t + 1) (by omega)
theorem f24_sp0 {K m s n : Nat} {c : Nat} {L : Nat → Nat} {g : zS} (hm : m ≤ 160) (hs : s ≤ m) (h3 : g 1 3 = nI s) (h4 : g 1 4 = nI (zE L m s)) (hc : c < 16) : f24_16 K (n + 1) (nI c) (nI (s + zWn c)) (nI (zpx L s (zE L m s) c (zWn c)).toNat) (nI (zOf c + zWn c)) g = if zmt L s (zE L m s) c = true then some (nI c, g) else f24_16 K n (nI (c + 1)) (nI s) 1 (nI (zOf (c + 1))) g := by
  obtain ⟨v1, v2, v3, v4⟩ := zW_2 c hc
  obtain ⟨e1, e2, e3⟩ := zE_le (L := L) hs
  rw [f24_16, show (97 : Int32) = nI 97 from rfl, if_neg (nI_ge (by omega) (by omega)), if_pos (zin_i (show zOf c + zWn c < 97 by omega) (by decide)), nI_clamp (show zOf c + zWn c < 2 ^ 31 by omega), if_pos v1]
  unfold f24_94 f24_105 zmt
  rw [nI_1, nI_1, v2, h3, h4]
  cases hz : zpx L s (zE L m s) c (zWn c) with
  | false => rw [if_pos (by decide), Bool.false_and, if_neg (by decide)]
  | true =>
    rw [if_neg (by decide), Bool.true_and]
    by_cases y : s + zWn c = zE L m s
    · rw [if_neg (fun w => w (by rw [y])), decide_eq_true y, if_pos rfl]
    · rw [if_pos (fun w => y ((nI_eq (by omega) (by omega)).mp w)), decide_eq_false y, if_neg (by decide)]
def zcd (k : Nat) : Int32 := if k = 16 then -1 else nI k
theorem f24_lp {K m s : Nat} {L : Nat → Nat} {g : zS} (hm : m ≤ 160) (hL : ∀ i, i < m → L i ≤ 255) (hs : s ≤ m) (T : zCT L m g) (h3 : g 1 3 = nI s) (h4 : g 1 4 = nI (zE L m s)) : ∀ d c n, c + d = 16 → 98 ≤ n + zOf c → f24_16 K n (nI c) (nI s) 1 (nI (zOf c)) g = some (zcd (zfw L s (zE L m s) d c), g) := by
  intro d
  induction d with
  | zero =>
    intro c n h1 h2
    have hc : c = 16 := by omega
    subst hc
    have h97 : zOf 16 = 97 := by decide +kernel
    obtain ⟨n, rfl⟩ : ∃ z, n = z + 1 := ⟨n - 1, by omega⟩
    rw [f24_16, if_pos (show (97 : Int32) ≤ nI (zOf 16) by decide +kernel)]
    rfl
  | succ d ih =>
    intro c n h1 h2
    obtain ⟨v1, v2, v3, v4⟩ := zW_2 c (by omega)
    obtain ⟨n, rfl⟩ : ∃ z, n = z + 1 + zWn c := ⟨n - 1 - zWn c, by omega⟩
    have e := f24_wd (K := K) (n := n + 1) hm hL hs T h4 (show c < 16 by omega) (zWn c) 0 (by omega)
    rw [zfw_s]
    refine Eq.trans e ?_
    rw [f24_sp0 hm hs h3 h4 (by omega)]
    by_cases y : zmt L s (zE L m s) c = true
    · rw [if_pos y, if_pos y]
      unfold zcd
      rw [if_neg (by omega)]
    · rw [if_neg y, if_neg y]
      exact ih (c + 1) n (by omega) (by omega)
/-- clauseHere -/
theorem f24_sp {K m s : Nat} {L : Nat → Nat} {g : zS} (hK : 200 ≤ K) (hm : m ≤ 160) (hL : ∀ i, i < m → L i ≤ 255) (hs : s ≤ m) (T : zCT L m g) (h3 : g 1 3 = nI s) (h4 : g 1 4 = nI (zE L m s)) : f24 K g = some (zcd (zcw L s (zE L m s)), g) := by
  unfold f24 zcw
  rw [h3]
  exact f24_lp hm hL hs T h3 h4 16 0 K rfl (by omega)
-- ===== the reference's words =====
theorem f154_lp {K m s c : Nat} {L : Nat → Nat} {w sv : Int32} {g : zS} (hm : m ≤ 160) (hL : ∀ i, i < m → L i ≤ 255) (hs : s ≤ m) (T : zRT L m g) (h3 : g 222 23 = nI s) (hc : c < 16) (he : s + zWn c = zE L m s) (hw : ∀ t, t < 8 → t < zWn c → (if (6 : Int32) ≤ nI t then (96 : Int32) + sv else 96 + ((w >>> ((5 * nI t) &&& 31)) &&& 31)) = nI (zWc c t)) : ∀ d t n, t + d = zWn c → d < n → f154_23 K n w (nI (zWn c)) sv (nI (zpx L s (zE L m s) c t).toNat) (nI t) g = some (nI (zpx L s (zE L m s) c (zWn c)).toNat, g) := by
  obtain ⟨v1, v2, v3, v4⟩ := zW_2 c hc
  obtain ⟨e1, e2, e3⟩ := zE_le (L := L) hs
  have dead : ∀ n t, f154_23 K (n + 1) w (nI (zWn c)) sv 0 t g = some (0, g) := fun n t => by rw [f154_23, if_pos rfl, if_pos (Or.inl rfl)]
  have fls : ∀ d t, zpx L s (zE L m s) c t = false → zpx L s (zE L m s) c (t + d) = false := by
    intro d
    induction d with
    | zero => intro t h; exact h
    | succ d ih => intro t h; rw [show t + (d + 1) = t + d + 1 by omega, zpx_s, ih t h, Bool.false_and]
  intro d
  induction d with
  | zero =>
    intro t n h1 h2
    obtain ⟨n, rfl⟩ : ∃ z, n = z + 1 := ⟨n - 1, by omega⟩
    rw [show t = zWn c by omega]
    cases hz : zpx L s (zE L m s) c (zWn c) with
    | false => exact dead n _
    | true =>
      rw [f154_23, if_neg (by decide), if_pos (nI_le (by omega) (by omega)), if_pos (show nI true.toNat = 0 ∨ nI true.toNat = 1 from Or.inr rfl)]
  | succ d ih =>
    intro t n h1 h2
    obtain ⟨n, rfl⟩ : ∃ z, n = z + 1 := ⟨n - 1, by omega⟩
    cases hz : zpx L s (zE L m s) c t with
    | false =>
      have := fls (d + 1) t hz
      rw [h1] at this
      rw [this]
      exact dead n _
    | true =>
      obtain ⟨w1, w2, w3⟩ := zW_1 c hc t (by omega)
      have l1 := hL (s + t) (by omega)
      have hwt := hw t (by omega) (by omega)
      have hi := ih (t + 1) n (by omega) (by omega)
      rw [zpx_s, hz, Bool.true_and, decide_eq_true (show s + t < zE L m s by omega), Bool.true_and] at hi
      rw [f154_23, if_neg (by decide), if_neg (nI_ge (by omega) (by omega)), h3, nI_add, if_pos (zin_i (show s + t < 160 by omega) (by decide)), nI_clamp (show s + t < 2 ^ 31 by omega), T.2 (s + t) (by omega)]
      unfold f154_68 f154_77
      rw [nI_1]
      have go : ∀ X : Int32, X = nI (zWc c t) → (if ¬ nI (L (s + t)) = X then f154_23 K n w (nI (zWn c)) sv 0 (nI (t + 1)) g else f154_23 K n w (nI (zWn c)) sv 1 (nI (t + 1)) g) = some (nI (zpx L s (zE L m s) c (zWn c)).toNat, g) := by
        intro X hX
        rw [hX]
        by_cases y : L (s + t) = zWc c t
        · rw [decide_eq_true y] at hi
          rw [if_neg (fun z => z (by rw [y]))]
          exact hi
        · rw [decide_eq_false y] at hi
          rw [if_pos (fun z => y ((nI_eq (by omega) (by omega)).mp z))]
          exact hi
      by_cases y6 : (6 : Int32) ≤ nI t
      · rw [if_pos y6] at hwt
        rw [if_pos y6]
        exact go _ hwt
      · rw [if_neg y6] at hwt
        rw [if_neg y6]
        exact go _ hwt
theorem f154_eq {K m s c : Nat} {L : Nat → Nat} {w sv : Int32} {g : zS} (hK : 20 ≤ K) (hm : m ≤ 160) (hL : ∀ i, i < m → L i ≤ 255) (hs : s ≤ m) (T : zRT L m g) (h3 : g 222 23 = nI s) (h4 : g 222 24 = nI (zE L m s)) (hc : c < 16) (hw : ∀ t, t < 8 → t < zWn c → (if (6 : Int32) ≤ nI t then (96 : Int32) + sv else 96 + ((w >>> ((5 * nI t) &&& 31)) &&& 31)) = nI (zWc c t)) : f154 K w (nI (zWn c)) sv g = some (if zcw L s (zE L m s) = c then 1 else 0, g) := by
  obtain ⟨v1, v2, v3, v4⟩ := zW_2 c hc
  obtain ⟨e1, e2, e3⟩ := zE_le (L := L) hs
  have fin : zmt L s (zE L m s) c = decide (zcw L s (zE L m s) = c) := zcw_i hc
  have e : (if zcw L s (zE L m s) = c then (1 : Int32) else 0) = nI (zmt L s (zE L m s) c).toNat := by
    rw [fin]
    by_cases y : zcw L s (zE L m s) = c
    · rw [if_pos y, decide_eq_true y]; rfl
    · rw [if_neg y, decide_eq_false y]; rfl
  rw [e]
  unfold f154 f154_18 zmt
  rw [h3, h4, pk_sub e1]
  by_cases y : s + zWn c = zE L m s
  · rw [if_neg (fun z => z (by rw [show zE L m s - s = zWn c by omega])), decide_eq_true y, Bool.and_true]
    exact f154_lp (K := K) hm hL hs T h3 hc y hw (zWn c) 0 K (by omega) (by omega)
  · obtain ⟨K, rfl⟩ : ∃ q, K = q + 1 := ⟨K - 1, by omega⟩
    rw [if_pos (fun z => y (by have := (nI_eq (by omega) (by omega)).mp z; omega)), decide_eq_false y, Bool.and_false, f154_23, if_pos rfl, if_pos (Or.inl rfl)]
    rfl
/-- wordOf -/
theorem f152_sp {K m s : Nat} {L : Nat → Nat} {g : zS} (hK : 20 ≤ K) (hm : m ≤ 160) (hL : ∀ i, i < m → L i ≤ 255) (hs : s ≤ m) (T : zRT L m g) (h3 : g 222 23 = nI s) (h4 : g 222 24 = nI (zE L m s)) : f152 K g = some (zcd (zcw L s (zE L m s)), g) := by
  have ev : ∀ c (w sv : Int32), c < 16 → (∀ t, t < 8 → t < zWn c → (if (6 : Int32) ≤ nI t then (96 : Int32) + sv else 96 + ((w >>> ((5 * nI t) &&& 31)) &&& 31)) = nI (zWc c t)) → f154 K w (nI (zWn c)) sv g = some (if zcw L s (zE L m s) = c then 1 else 0, g) := fun c w sv hc hw => f154_eq hK hm hL hs T h3 h4 hc hw
  generalize hz : zcw L s (zE L m s) = z at ev
  have e0 : f154 K 14025906 5 0 g = some (if z = 0 then 1 else 0, g) := ev 0 14025906 0 (by decide) (by decide +kernel)
  have e1 : f154 K 480750 4 0 g = some (if z = 1 then 1 else 0, g) := ev 1 480750 0 (by decide) (by decide +kernel)
  have e2 : f154 K 14976400 5 0 g = some (if z = 2 then 1 else 0, g) := ev 2 14976400 0 (by decide) (by decide +kernel)
  have e3 : f154 K 626504163 6 0 g = some (if z = 3 then 1 else 0, g) := ev 3 626504163 0 (by decide) (by decide +kernel)
  have e4 : f154 K 208936 4 0 g = some (if z = 4 then 1 else 0, g) := ev 4 208936 0 (by decide) (by decide +kernel)
  have e5 : f154 K 177198 4 0 g = some (if z = 5 then 1 else 0, g) := ev 5 177198 0 (by decide) (by decide +kernel)
  have e6 : f154 K 175572227 6 0 g = some (if z = 6 then 1 else 0, g) := ev 6 175572227 0 (by decide) (by decide +kernel)
  have e7 : f154 K 195350819 7 14 g = some (if z = 7 then 1 else 0, g) := ev 7 195350819 14 (by decide) (by decide +kernel)
  have e8 : f154 K 19061228 5 0 g = some (if z = 8 then 1 else 0, g) := ev 8 19061228 0 (by decide) (by decide +kernel)
  have e9 : f154 K 110765635 6 0 g = some (if z = 9 then 1 else 0, g) := ev 9 110765635 0 (by decide) (by decide +kernel)
  have e10 : f154 K 660976 4 0 g = some (if z = 10 then 1 else 0, g) := ev 10 660976 0 (by decide) (by decide +kernel)
  have e11 : f154 K 485806130 6 0 g = some (if z = 11 then 1 else 0, g) := ev 11 485806130 0 (by decide) (by decide +kernel)
  have e12 : f154 K 20100142 5 0 g = some (if z = 12 then 1 else 0, g) := ev 12 20100142 0 (by decide) (by decide +kernel)
  have e13 : f154 K 5351156 5 0 g = some (if z = 13 then 1 else 0, g) := ev 13 5351156 0 (by decide) (by decide +kernel)
  have e14 : f154 K 12982003 5 0 g = some (if z = 14 then 1 else 0, g) := ev 14 12982003 0 (by decide) (by decide +kernel)
  have e15 : f154 K 143661 4 0 g = some (if z = 15 then 1 else 0, g) := ev 15 143661 0 (by decide) (by decide +kernel)
  have hz16 : z ≤ 16 := by rw [← hz]; exact zcw_le
  have k1 : ∀ c : Nat, z = c → (if z = c then (1 : Int32) else 0) = 1 := fun c h => if_pos h
  have k0 : ∀ c : Nat, ¬ z = c → (if z = c then (1 : Int32) else 0) = 0 := fun c h => if_neg h
  have n1 : ¬ (1 : Int32) = 0 := by decide
  have h153 : f153 K g = some (if 1 ≤ z ∧ z ≤ 5 then nI z else -1, g) := by
    unfold f153
    rw [e1, zbd_s]
    by_cases q1 : z = 1
    · rw [k1 1 q1, if_neg n1, q1]; rfl
    rw [k0 1 q1, if_pos rfl, e2, zbd_s]
    by_cases q2 : z = 2
    · rw [k1 2 q2, if_neg n1, q2]; rfl
    rw [k0 2 q2, if_pos rfl, e3, zbd_s]
    by_cases q3 : z = 3
    · rw [k1 3 q3, if_neg n1, q3]; rfl
    rw [k0 3 q3, if_pos rfl, e4, zbd_s]
    by_cases q4 : z = 4
    · rw [k1 4 q4, if_neg n1, q4]; rfl
    rw [k0 4 q4, if_pos rfl, e5, zbd_s]
    by_cases q5 : z = 5
    · rw [k1 5 q5, if_neg n1, q5]; rfl
    rw [k0 5 q5, if_pos rfl, if_neg (by omega)]
  have h155 : f155 K g = some (if 7 ≤ z ∧ z ≤ 10 then nI z else -1, g) := by
    unfold f155
    rw [e7, zbd_s]
    by_cases q1 : z = 7
    · rw [k1 7 q1, if_neg n1, q1]; rfl
    rw [k0 7 q1, if_pos rfl, e8, zbd_s]
    by_cases q2 : z = 8
    · rw [k1 8 q2, if_neg n1, q2]; rfl
    rw [k0 8 q2, if_pos rfl, e9, zbd_s]
    by_cases q3 : z = 9
    · rw [k1 9 q3, if_neg n1, q3]; rfl
    rw [k0 9 q3, if_pos rfl, e10, zbd_s]
    by_cases q4 : z = 10
    · rw [k1 10 q4, if_neg n1, q4]; rfl
    rw [k0 10 q4, if_pos rfl, if_neg (by omega)]
  have h19 : ¬ (1 ≤ z ∧ z ≤ 5) → ¬ (7 ≤ z ∧ z ≤ 10) → f152_19 K (-1) g = some (zcd z, g) := by
    intro a b
    unfold f152_19 zcd
    rw [if_pos rfl, e0, zbd_s]
    by_cases q1 : z = 0
    · rw [k1 0 q1, if_neg n1, q1]; rfl
    rw [k0 0 q1, if_pos rfl, e6, zbd_s]
    by_cases q2 : z = 6
    · rw [k1 6 q2, if_neg n1, q2]; rfl
    rw [k0 6 q2, if_pos rfl, e11, zbd_s]
    by_cases q3 : z = 11
    · rw [k1 11 q3, if_neg n1, q3]; rfl
    rw [k0 11 q3, if_pos rfl, e12, zbd_s]
    by_cases q4 : z = 12
    · rw [k1 12 q4, if_neg n1, q4]; rfl
    rw [k0 12 q4, if_pos rfl, e13, zbd_s]
    by_cases q5 : z = 13
    · rw [k1 13 q5, if_neg n1, q5]; rfl
    rw [k0 13 q5, if_pos rfl, e14, zbd_s]
    by_cases q6 : z = 14
    · rw [k1 14 q6, if_neg n1, q6]; rfl
    rw [k0 14 q6, if_pos rfl, e15, zbd_s]
    by_cases q7 : z = 15
    · rw [k1 15 q7, if_neg n1, q7]; rfl
    rw [k0 15 q7, if_pos rfl, if_pos (show z = 16 by omega)]
  have hn19 : ∀ v : Nat, v < 16 → f152_19 K (nI v) g = some (nI v, g) := by
    intro v hv
    unfold f152_19
    rw [if_neg (nI_nm1 (by omega))]
  unfold f152
  rw [h153, zbd_s]
  by_cases a : 1 ≤ z ∧ z ≤ 5
  · rw [if_pos a, if_neg (nI_nm1 (by omega)), h153, zbd_s, if_pos a, hn19 z (by omega)]
    unfold zcd
    rw [if_neg (by omega)]
  · rw [if_neg a, if_pos rfl, h155, zbd_s]
    by_cases b : 7 ≤ z ∧ z ≤ 10
    · rw [if_pos b, hn19 z (by omega)]
      unfold zcd
      rw [if_neg (by omega)]
    · rw [if_neg b, h19 a b]
