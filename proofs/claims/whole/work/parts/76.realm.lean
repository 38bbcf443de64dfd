-- ===== realm: what the clauses come to, one after another =====
def zfd (t : zTau) (ks : Nat → Nat → Nat) : Nat → zTau
  | 0 => t
  | n + 1 => zhr (zfd t ks n) (ks n)
theorem zfd_c {t : zTau} {ks ks' : Nat → Nat → Nat} : ∀ n, (∀ j, j < n → ks j = ks' j) → zfd t ks n = zfd t ks' n := by
  intro n
  induction n with
  | zero => intro _; rfl
  | succ n ih =>
    intro h
    rw [zfd, zfd, ih (fun j hj => h j (by omega)), h n (by omega)]
theorem zrl_fd {L : Nat → Nat} {m : Nat} {t0 : zTau} : ∀ d k (t : zTau) s ks, k + d = 15 → 0 < k → s ≤ m → zBd t → t = zfd t0 ks (k - 1) → (∀ j, j < k - 1 → zVc (zfd t0 ks j) (ks j) ∧ zBd (zfd t0 ks j)) → (zrl L m d t s k ks).1 ≤ m ∨ ((zrl L m d t s k ks).1 = 999 ∧ (zrl L m d t s k ks).2.1 ≤ 14 ∧ (zrl L m d t s k ks).2.2.1 = zfd t0 (zrl L m d t s k ks).2.2.2 (zrl L m d t s k ks).2.1 ∧ ∀ j, j < (zrl L m d t s k ks).2.1 → zVc (zfd t0 (zrl L m d t s k ks).2.2.2 j) ((zrl L m d t s k ks).2.2.2 j) ∧ zBd (zfd t0 (zrl L m d t s k ks).2.2.2 j)) := by
  intro d
  induction d with
  | zero => intro k t s ks _ _ hs _ _ _; exact Or.inl hs
  | succ d ih =>
    intro k t s ks h1 h2 hs B ht hk
    obtain ⟨ok1, ok2⟩ := zRc_ok (L := L) (m := m) (s := s) (t := t) hs B
    rw [zrl_s]
    by_cases q1 : (zRc L m t s).1 = true
    · have V := ok2 q1
      have B1 := zhr_bd B V
      obtain ⟨ks', hks'⟩ : ∃ ks' : Nat → Nat → Nat, ks' = fun j => if j = k - 1 then (zRc L m t s).2.2 else ks j := ⟨_, rfl⟩
      have a1 : ∀ j, j < k - 1 → ks j = ks' j := fun j hj => by rw [hks']; exact (if_neg (by omega)).symm
      have a2 : ks' (k - 1) = (zRc L m t s).2.2 := by rw [hks']; exact if_pos rfl
      have a3 : ∀ j, j ≤ k - 1 → zfd t0 ks j = zfd t0 ks' j := fun j hj => zfd_c j (fun i hi => a1 i (by omega))
      have a4 : zhr t (zRc L m t s).2.2 = zfd t0 ks' k := by
        obtain ⟨k0, rfl⟩ : ∃ z, k = z + 1 := ⟨k - 1, by omega⟩
        rw [Nat.add_sub_cancel] at a2 a3 ht
        rw [zfd, a2, ← a3 k0 (Nat.le_refl _), ← ht]
      have a5 : ∀ j, j < k → zVc (zfd t0 ks' j) (ks' j) ∧ zBd (zfd t0 ks' j) := fun j hj => by
        by_cases q : j = k - 1
        · rw [q, a2, ← a3 _ (Nat.le_refl _), ← ht]
          exact ⟨V, B⟩
        · rw [← a3 _ (by omega), ← a1 _ (by omega)]
          exact hk j (by omega)
      rw [if_pos q1, ← hks']
      by_cases q2 : (zRc L m t s).2.1 < m
      · rw [if_pos q2]
        by_cases q3 : k = 14 ∨ ¬ L (zRc L m t s).2.1 = 59
        · rw [if_pos q3]
          exact Or.inl ok1
        · rw [if_neg q3]
          exact ih (k + 1) _ _ ks' (by omega) (by omega) (zNx_le ok1) B1 a4 a5
      · rw [if_neg q2]
        exact Or.inr ⟨rfl, (show k ≤ 14 by omega), a4, a5⟩
    · rw [if_neg q1]
      exact Or.inl ok1
-- ===== the reference does a clause =====
theorem zRf_3 {t : zTau} {g : zS} {v : Nat} (R : zRf t g) : zRf (zTs t 0 3 v) (zup g 222 15 (nI v)) := by
  obtain ⟨⟨r0, r1, r2, r3, r4⟩, r5, r6, r7⟩ := R
  refine ⟨⟨by rw [zup_k (by decide), zTs_o (by omega)]; exact r0, by rw [zup_k (by decide), zTs_o (by omega)]; exact r1, by rw [zup_k (by decide), zTs_o (by omega)]; exact r2, by rw [zup_s, zTs_s], by rw [zup_k (by decide), zTs_o (by omega)]; exact r4⟩, fun i hi => ?_, fun i hi => ?_, fun i hi => ?_⟩
  · rw [zTs_o (by omega)] at hi
    rw [zup_c (by decide), zup_c (by decide), zTs_o (by omega), zTs_o (by omega)]; exact r5 i hi
  · rw [zTs_o (by omega)] at hi
    rw [zup_c (by decide), zup_c (by decide), zTs_o (by omega), zTs_o (by omega)]; exact r6 i hi
  · rw [zTs_o (by omega)] at hi
    rw [zup_c (by decide), zTs_o (by omega), zTs_o (by omega), zTs_o (by omega)]; exact r7 i hi
theorem zRf_4 {t : zTau} {g : zS} {v : Nat} (R : zRf t g) : zRf (zTs t 0 4 v) (zup g 222 16 (nI v)) := by
  obtain ⟨⟨r0, r1, r2, r3, r4⟩, r5, r6, r7⟩ := R
  refine ⟨⟨by rw [zup_k (by decide), zTs_o (by omega)]; exact r0, by rw [zup_k (by decide), zTs_o (by omega)]; exact r1, by rw [zup_k (by decide), zTs_o (by omega)]; exact r2, by rw [zup_k (by decide), zTs_o (by omega)]; exact r3, by rw [zup_s, zTs_s]⟩, fun i hi => ?_, fun i hi => ?_, fun i hi => ?_⟩
  · rw [zTs_o (by omega)] at hi
    rw [zup_c (by decide), zup_c (by decide), zTs_o (by omega), zTs_o (by omega)]; exact r5 i hi
  · rw [zTs_o (by omega)] at hi
    rw [zup_c (by decide), zup_c (by decide), zTs_o (by omega), zTs_o (by omega)]; exact r6 i hi
  · rw [zTs_o (by omega)] at hi
    rw [zup_c (by decide), zTs_o (by omega), zTs_o (by omega), zTs_o (by omega)]; exact r7 i hi
theorem zRf_w {t : zTau} {g : zS} {a b : Nat} (R : zRf t g) : zRf (zTs (zTs (zTs t 1 (t 0 0) a) 2 (t 0 0) b) 0 0 (t 0 0 + 1)) (zup (zup (zup g 227 (t 0 0) (nI a)) 228 (t 0 0) (nI b)) 222 9 (nI (t 0 0 + 1))) := by
  obtain ⟨⟨r0, r1, r2, r3, r4⟩, r5, r6, r7⟩ := R
  have o : ∀ b' j, ¬ (b' = 0 ∧ j = 0) → b' ≠ 1 → b' ≠ 2 → zTs (zTs (zTs t 1 (t 0 0) a) 2 (t 0 0) b) 0 0 (t 0 0 + 1) b' j = t b' j := fun b' j h1 h2 h3 => by rw [zTs_o h1, zTs_o (by omega), zTs_o (by omega)]
  have u : ∀ k, k ≠ 9 → (zup (zup (zup g 227 (t 0 0) (nI a)) 228 (t 0 0) (nI b)) 222 9 (nI (t 0 0 + 1))) 222 k = g 222 k := fun k hk => by rw [zup_k hk, zup_c (by decide), zup_c (by decide)]
  have uc : ∀ c, c ≠ 222 → c ≠ 227 → c ≠ 228 → (zup (zup (zup g 227 (t 0 0) (nI a)) 228 (t 0 0) (nI b)) 222 9 (nI (t 0 0 + 1))) c = g c := fun c c1 c2 c3 => by rw [zup_c c1, zup_c c3, zup_c c2]
  refine ⟨⟨by rw [zup_s, zTs_s], by rw [u _ (by decide), o _ _ (by omega) (by decide) (by decide)]; exact r1, by rw [u _ (by decide), o _ _ (by omega) (by decide) (by decide)]; exact r2, by rw [u _ (by decide), o _ _ (by omega) (by decide) (by decide)]; exact r3, by rw [u _ (by decide), o _ _ (by omega) (by decide) (by decide)]; exact r4⟩, fun i hi => ?_, fun i hi => ?_, fun i hi => ?_⟩
  · rw [zTs_s] at hi
    have a1 : (zup (zup (zup g 227 (t 0 0) (nI a)) 228 (t 0 0) (nI b)) 222 9 (nI (t 0 0 + 1))) 227 i = if i = t 0 0 then nI a else g 227 i := by rw [zup_c (by decide), zup_c (by decide), zup_e]
    have a2 : (zup (zup (zup g 227 (t 0 0) (nI a)) 228 (t 0 0) (nI b)) 222 9 (nI (t 0 0 + 1))) 228 i = if i = t 0 0 then nI b else g 228 i := by rw [zup_c (by decide), zup_e, zup_c (by decide)]
    rw [a1, a2]
    by_cases q : i = t 0 0
    · rw [if_pos q, if_pos q, q, zTs_o (by omega), zTs_o (by omega), zTs_s, zTs_o (by omega), zTs_s]
      exact ⟨rfl, rfl⟩
    · rw [if_neg q, if_neg q, zTs_o (by omega), zTs_o (by omega), zTs_o (by omega), zTs_o (by omega), zTs_o (by omega), zTs_o (by omega)]
      exact r5 i (by omega)
  · rw [o _ _ (by omega) (by decide) (by decide)] at hi
    rw [uc _ (by decide) (by decide) (by decide), uc _ (by decide) (by decide) (by decide), o _ _ (by omega) (by decide) (by decide), o _ _ (by omega) (by decide) (by decide)]
    exact r6 i hi
  · rw [o _ _ (by omega) (by decide) (by decide)] at hi
    rw [uc _ (by decide) (by decide) (by decide), o _ _ (by omega) (by decide) (by decide), o _ _ (by omega) (by decide) (by decide), o _ _ (by omega) (by decide) (by decide)]
    exact r7 i hi
theorem zRf_p {t : zTau} {g : zS} {a b : Nat} (R : zRf t g) : zRf (zTs (zTs (zTs t 3 (t 0 1) a) 4 (t 0 1) b) 0 1 (t 0 1 + 1)) (zup (zup (zup g 230 (t 0 1) (nI a)) 231 (t 0 1) (nI b)) 222 14 (nI (t 0 1 + 1))) := by
  obtain ⟨⟨r0, r1, r2, r3, r4⟩, r5, r6, r7⟩ := R
  have o : ∀ b' j, ¬ (b' = 0 ∧ j = 1) → b' ≠ 3 → b' ≠ 4 → zTs (zTs (zTs t 3 (t 0 1) a) 4 (t 0 1) b) 0 1 (t 0 1 + 1) b' j = t b' j := fun b' j h1 h2 h3 => by rw [zTs_o h1, zTs_o (by omega), zTs_o (by omega)]
  have u : ∀ k, k ≠ 14 → (zup (zup (zup g 230 (t 0 1) (nI a)) 231 (t 0 1) (nI b)) 222 14 (nI (t 0 1 + 1))) 222 k = g 222 k := fun k hk => by rw [zup_k hk, zup_c (by decide), zup_c (by decide)]
  have uc : ∀ c, c ≠ 222 → c ≠ 230 → c ≠ 231 → (zup (zup (zup g 230 (t 0 1) (nI a)) 231 (t 0 1) (nI b)) 222 14 (nI (t 0 1 + 1))) c = g c := fun c c1 c2 c3 => by rw [zup_c c1, zup_c c3, zup_c c2]
  refine ⟨⟨by rw [u _ (by decide), o _ _ (by omega) (by decide) (by decide)]; exact r0, by rw [zup_s, zTs_s], by rw [u _ (by decide), o _ _ (by omega) (by decide) (by decide)]; exact r2, by rw [u _ (by decide), o _ _ (by omega) (by decide) (by decide)]; exact r3, by rw [u _ (by decide), o _ _ (by omega) (by decide) (by decide)]; exact r4⟩, fun i hi => ?_, fun i hi => ?_, fun i hi => ?_⟩
  · rw [o _ _ (by omega) (by decide) (by decide)] at hi
    rw [uc _ (by decide) (by decide) (by decide), uc _ (by decide) (by decide) (by decide), o _ _ (by omega) (by decide) (by decide), o _ _ (by omega) (by decide) (by decide)]
    exact r5 i hi
  · rw [zTs_s] at hi
    have a1 : (zup (zup (zup g 230 (t 0 1) (nI a)) 231 (t 0 1) (nI b)) 222 14 (nI (t 0 1 + 1))) 230 i = if i = t 0 1 then nI a else g 230 i := by rw [zup_c (by decide), zup_c (by decide), zup_e]
    have a2 : (zup (zup (zup g 230 (t 0 1) (nI a)) 231 (t 0 1) (nI b)) 222 14 (nI (t 0 1 + 1))) 231 i = if i = t 0 1 then nI b else g 231 i := by rw [zup_c (by decide), zup_e, zup_c (by decide)]
    rw [a1, a2]
    by_cases q : i = t 0 1
    · rw [if_pos q, if_pos q, q, zTs_o (by omega), zTs_o (by omega), zTs_s, zTs_o (by omega), zTs_s]
      exact ⟨rfl, rfl⟩
    · rw [if_neg q, if_neg q, zTs_o (by omega), zTs_o (by omega), zTs_o (by omega), zTs_o (by omega), zTs_o (by omega), zTs_o (by omega)]
      exact r6 i (by omega)
  · rw [o _ _ (by omega) (by decide) (by decide)] at hi
    rw [uc _ (by decide) (by decide) (by decide), o _ _ (by omega) (by decide) (by decide), o _ _ (by omega) (by decide) (by decide), o _ _ (by omega) (by decide) (by decide)]
    exact r7 i hi
theorem zRf_c {t : zTau} {g : zS} {a b e : Nat} (R : zRf t g) : zRf (zTs (zTs (zTs (zTs t 5 (t 0 2) a) 6 (t 0 2) b) 7 (t 0 2) e) 0 2 (t 0 2 + 1)) (zup (zup (zup (zup g 229 (3 * t 0 2) (nI a)) 229 (3 * t 0 2 + 1) (nI b)) 229 (3 * t 0 2 + 2) (nI e)) 222 11 (nI (t 0 2 + 1))) := by
  obtain ⟨⟨r0, r1, r2, r3, r4⟩, r5, r6, r7⟩ := R
  have o : ∀ b' j, ¬ (b' = 0 ∧ j = 2) → b' ≤ 4 → zTs (zTs (zTs (zTs t 5 (t 0 2) a) 6 (t 0 2) b) 7 (t 0 2) e) 0 2 (t 0 2 + 1) b' j = t b' j := fun b' j h1 h2 => by rw [zTs_o h1, zTs_o (by omega), zTs_o (by omega), zTs_o (by omega)]
  obtain ⟨h0, hh⟩ : ∃ h0, h0 = (zup (zup (zup (zup g 229 (3 * t 0 2) (nI a)) 229 (3 * t 0 2 + 1) (nI b)) 229 (3 * t 0 2 + 2) (nI e)) 222 11 (nI (t 0 2 + 1))) := ⟨_, rfl⟩
  have u : ∀ k, k ≠ 11 → h0 222 k = g 222 k := fun k hk => by rw [hh, zup_k hk, zup_c (by decide), zup_c (by decide), zup_c (by decide)]
  have uc : ∀ c, c ≠ 222 → c ≠ 229 → h0 c = g c := fun c c1 c2 => by rw [hh, zup_c c1, zup_c c2, zup_c c2, zup_c c2]
  have us : h0 222 11 = nI (t 0 2 + 1) := by rw [hh, zup_s]
  have ue : ∀ k, h0 229 k = if k = 3 * t 0 2 + 2 then nI e else if k = 3 * t 0 2 + 1 then nI b else if k = 3 * t 0 2 then nI a else g 229 k := fun k => by rw [hh, zup_c (by decide), zup_e, zup_e, zup_e]
  rw [← hh]
  refine ⟨⟨by rw [u _ (by decide), o _ _ (by omega) (by decide)]; exact r0, by rw [u _ (by decide), o _ _ (by omega) (by decide)]; exact r1, by rw [us, zTs_s], by rw [u _ (by decide), o _ _ (by omega) (by decide)]; exact r3, by rw [u _ (by decide), o _ _ (by omega) (by decide)]; exact r4⟩, fun i hi => ?_, fun i hi => ?_, fun i hi => ?_⟩
  · rw [o _ _ (by omega) (by decide)] at hi
    rw [uc _ (by decide) (by decide), uc _ (by decide) (by decide), o _ _ (by omega) (by decide), o _ _ (by omega) (by decide)]
    exact r5 i hi
  · rw [o _ _ (by omega) (by decide)] at hi
    rw [uc _ (by decide) (by decide), uc _ (by decide) (by decide), o _ _ (by omega) (by decide), o _ _ (by omega) (by decide)]
    exact r6 i hi
  · rw [zTs_s] at hi
    rw [ue, ue, ue]
    by_cases q : i = t 0 2
    · rw [q, if_neg (show ¬ 3 * t 0 2 = 3 * t 0 2 + 2 by omega), if_neg (show ¬ 3 * t 0 2 = 3 * t 0 2 + 1 by omega), if_pos (show 3 * t 0 2 = 3 * t 0 2 from rfl), if_neg (show ¬ 3 * t 0 2 + 1 = 3 * t 0 2 + 2 by omega), if_pos (show 3 * t 0 2 + 1 = 3 * t 0 2 + 1 from rfl), if_pos (show 3 * t 0 2 + 2 = 3 * t 0 2 + 2 from rfl), zTs_o (b := 5) (by omega), zTs_o (b := 5) (by omega), zTs_o (b := 5) (by omega), zTs_s, zTs_o (b := 6) (by omega), zTs_o (b := 6) (by omega), zTs_s, zTs_o (b := 7) (by omega), zTs_s]
      exact ⟨rfl, rfl, rfl⟩
    · rw [if_neg (show ¬ 3 * i = 3 * t 0 2 + 2 by omega), if_neg (show ¬ 3 * i = 3 * t 0 2 + 1 by omega), if_neg (show ¬ 3 * i = 3 * t 0 2 by omega), if_neg (show ¬ 3 * i + 1 = 3 * t 0 2 + 2 by omega), if_neg (show ¬ 3 * i + 1 = 3 * t 0 2 + 1 by omega), if_neg (show ¬ 3 * i + 1 = 3 * t 0 2 by omega), if_neg (show ¬ 3 * i + 2 = 3 * t 0 2 + 2 by omega), if_neg (show ¬ 3 * i + 2 = 3 * t 0 2 + 1 by omega), if_neg (show ¬ 3 * i + 2 = 3 * t 0 2 by omega), zTs_o (b := 5) (by omega), zTs_o (b := 5) (by omega), zTs_o (b := 5) (by omega), zTs_o (b := 5) (by omega), zTs_o (b := 6) (by omega), zTs_o (b := 6) (by omega), zTs_o (b := 6) (by omega), zTs_o (b := 6) (by omega), zTs_o (b := 7) (by omega), zTs_o (b := 7) (by omega), zTs_o (b := 7) (by omega), zTs_o (b := 7) (by omega)]
      exact r7 i (by omega)
theorem zRf_0 {t : zTau} {g : zS} (R : zRf t g) : zRf (zTs (zTs (zTs (zTs (zTs t 0 0 0) 0 1 0) 0 2 0) 0 3 9) 0 4 0) (zup (zup (zup (zup (zup g 222 9 0) 222 11 0) 222 14 0) 222 15 9) 222 16 0) := by
  refine ⟨⟨?_, ?_, ?_, ?_, ?_⟩, fun i hi => ?_, fun i hi => ?_, fun i hi => ?_⟩
  · rw [zup_k (by decide), zup_k (by decide), zup_k (by decide), zup_k (by decide), zup_s, zTs_o (by omega), zTs_o (by omega), zTs_o (by omega), zTs_o (by omega), zTs_s]; rfl
  · rw [zup_k (by decide), zup_k (by decide), zup_s, zTs_o (by omega), zTs_o (by omega), zTs_o (by omega), zTs_s]; rfl
  · rw [zup_k (by decide), zup_k (by decide), zup_k (by decide), zup_s, zTs_o (by omega), zTs_o (by omega), zTs_s]; rfl
  · rw [zup_k (by decide), zup_s, zTs_o (by omega), zTs_s]; rfl
  · rw [zup_s, zTs_s]; rfl
  · rw [zTs_o (by omega), zTs_o (by omega), zTs_o (by omega), zTs_o (by omega), zTs_s] at hi; omega
  · rw [zTs_o (by omega), zTs_o (by omega), zTs_o (by omega), zTs_s] at hi; omega
  · rw [zTs_o (by omega), zTs_o (by omega), zTs_s] at hi; omega
theorem f164_st {K q j n x : Nat} {g : zS} (hj : j < 14) (hn : n < 6) (hx : x < 3) (h : g 222 11 = nI n) : f164_2 K (q + 1) (nI (4 * j)) (nI x) g = f164_2 K q (nI (4 * j)) (nI (x + 1)) (zup g 229 (3 * n + x) (g 226 (4 * j + 1 + x))) := by
  have e1 : (nI (4 * j) + 1) + nI x = nI (4 * j + 1 + x) := by rw [nI_1, nI_add]
  have e2 : 3 * nI n + nI x = nI (3 * n + x) := by rw [show 3 * nI n = nI (3 * n) from nI_mu 3 n, nI_add]
  rw [f164_2, if_neg (show ¬ (3 : Int32) ≤ nI x from nI_ge (b := 3) hx (by omega)), h, e1, e2, if_pos (zin_i (show 4 * j + 1 + x < 56 by omega) (by decide)), if_pos (zin_i (show 3 * n + x < 18 by omega) (by decide)), nI_clamp (show 4 * j + 1 + x < 2 ^ 31 by omega), nI_clamp (show 3 * n + x < 2 ^ 31 by omega), nI_1]
theorem f164_sp {K j n : Nat} {g : zS} (hK : 4 ≤ K) (hj : j < 14) (hn : n < 6) (h : g 222 11 = nI n) : f164 K (nI (4 * j)) g = some ((), zup (zup (zup (zup g 229 (3 * n) (g 226 (4 * j + 1))) 229 (3 * n + 1) (g 226 (4 * j + 2))) 229 (3 * n + 2) (g 226 (4 * j + 3))) 222 11 (nI (n + 1))) := by
  obtain ⟨q, hq⟩ : ∃ q, K = q + 1 + 1 + 1 + 1 := ⟨K - 4, by omega⟩
  unfold f164
  have e : ∀ q, f164_2 K (q + 1 + 1 + 1 + 1) (nI (4 * j)) (nI 0) g = some ((), zup (zup (zup (zup g 229 (3 * n) (g 226 (4 * j + 1))) 229 (3 * n + 1) (g 226 (4 * j + 2))) 229 (3 * n + 2) (g 226 (4 * j + 3))) 222 11 (nI (n + 1))) := by
    intro q
    rw [f164_st hj hn (by omega) h, f164_st hj hn (by omega) (by rw [zup_c (by decide)]; exact h), f164_st hj hn (by omega) (by rw [zup_c (by decide), zup_c (by decide)]; exact h), f164_2, if_pos (show (3 : Int32) ≤ nI (0 + 1 + 1 + 1) from nI_le (a := 3) (by omega) (by omega))]
    have c1 : ∀ X i v, (zup X 229 i v) 226 = X 226 := fun X i v => zup_c (by decide)
    have c2 : ∀ X i v, (zup X 229 i v) 222 = X 222 := fun X i v => zup_c (by decide)
    rw [c2, c2, c2, c1, c1, c1, h, nI_1]
    rfl
  have := e q
  rw [← hq] at this
  exact this
theorem f161_sp {K j : Nat} {t : zTau} {k : Nat → Nat} {g : zS} (hK : 4 ≤ K) (hj : j < 14) (V : zVc t k) (R : zRf t g) (H : zR1 k j g) : ∃ g', f161 K (nI (4 * j)) g = some ((), g') ∧ zRf (zhr t k) g' ∧ (∀ c, c ≠ 222 → c < 227 ∨ 231 < c → g' c = g c) ∧ ∀ i, i ≠ 9 → i ≠ 11 → i ≠ 14 → i ≠ 15 → i ≠ 16 → g' 222 i = g 222 i := by
  obtain ⟨h0, h1, h2⟩ := H
  obtain ⟨v0, v1, v2, v3, v4⟩ := V
  have R0 : zRf t g := R
  obtain ⟨⟨r0, r1, r2, r3, r4⟩, r5, r6, r7⟩ := R
  have ne : ∀ b : Nat, b < 16 → (nI (k 0) = nI b ↔ k 0 = b) := fun b hb => nI_eq (by omega) (by omega)
  unfold f161
  rw [if_pos (zin_i (show 4 * j < 56 by omega) (by decide)), nI_1, if_pos (zin_i (show 4 * j + 1 < 56 by omega) (by decide)), nI_clamp (show 4 * j < 2 ^ 31 by omega), nI_clamp (show 4 * j + 1 < 2 ^ 31 by omega), h0, f156_eq (by omega), zbd_s]
  by_cases w : 1 ≤ k 0 ∧ k 0 ≤ 5
  · obtain ⟨x1, x2⟩ := v1 w.1 w.2
    rw [if_pos w, if_neg (show ¬ (1 : Int32) = 0 by decide), h1 ⟨by omega, by omega⟩, show nI (k 0) - 1 = nI (k 0 - 1) from pk_sub (a := k 0) (b := 1) (by omega)]
    unfold f162
    rw [r0, if_pos (zin_i (show t 0 0 < 10 by omega) (by decide)), nI_clamp (show t 0 0 < 2 ^ 31 by omega)]
    have c1 : ∀ X i v, (zup X 227 i v) 222 = X 222 := fun X i v => zup_c (by decide)
    have c2 : ∀ X i v, (zup X 228 i v) 222 = X 222 := fun X i v => zup_c (by decide)
    rw [c1, r0, if_pos (zin_i (show t 0 0 < 10 by omega) (by decide)), nI_clamp (show t 0 0 < 2 ^ 31 by omega), c2, c1, r0, zbd_s, nI_1, zhr_w w]
    exact ⟨_, rfl, zRf_w R0, fun c q1 q2 => by rw [zup_c q1, zup_c (by omega), zup_c (by omega)], fun i i1 i2 i3 i4 i5 => by rw [zup_k i1, zup_c (by decide), zup_c (by decide)]⟩
  rw [if_neg w, if_pos (show (0 : Int32) = 0 from rfl), f157_eq (by omega), zbd_s]
  by_cases p : 7 ≤ k 0 ∧ k 0 ≤ 10
  · obtain ⟨x1, x2⟩ := v2 p.1 p.2
    rw [if_pos p, if_neg (show ¬ (1 : Int32) = 0 by decide), h1 ⟨by omega, by omega⟩, show nI (k 0) - 7 = nI (k 0 - 7) from pk_sub (a := k 0) (b := 7) (by omega)]
    unfold f163
    rw [r1, if_pos (zin_i (show t 0 1 < 4 by omega) (by decide)), nI_clamp (show t 0 1 < 2 ^ 31 by omega)]
    have c1 : ∀ X i v, (zup X 230 i v) 222 = X 222 := fun X i v => zup_c (by decide)
    have c2 : ∀ X i v, (zup X 231 i v) 222 = X 222 := fun X i v => zup_c (by decide)
    rw [c1, r1, if_pos (zin_i (show t 0 1 < 4 by omega) (by decide)), nI_clamp (show t 0 1 < 2 ^ 31 by omega), c2, c1, r1, zbd_s, nI_1, zhr_p p]
    exact ⟨_, rfl, zRf_p R0, fun c q1 q2 => by rw [zup_c q1, zup_c (by omega), zup_c (by omega)], fun i i1 i2 i3 i4 i5 => by rw [zup_k i3, zup_c (by decide), zup_c (by decide)]⟩
  rw [if_neg p, if_pos (show (0 : Int32) = 0 from rfl)]
  by_cases q6 : k 0 = 6
  · obtain ⟨x1, x2, x3, x4⟩ := v3 q6
    obtain ⟨y1, y2⟩ := h2 q6
    rw [if_neg (show ¬ ¬ nI (k 0) = 6 from fun z => z ((ne 6 (by omega)).mpr q6)), f164_sp hK hj x1 r2, zbd_s, h1 ⟨by omega, by omega⟩, y1, y2, zhr_c q6]
    exact ⟨_, rfl, zRf_c R0, fun c q1 q2 => by rw [zup_c q1, zup_c (by omega), zup_c (by omega), zup_c (by omega)], fun i i1 i2 i3 i4 i5 => by rw [zup_k i2, zup_c (by decide), zup_c (by decide), zup_c (by decide)]⟩
  rw [if_pos (show ¬ nI (k 0) = 6 from fun z => q6 ((ne 6 (by omega)).mp z))]
  by_cases q11 : k 0 = 11
  · rw [if_neg (show ¬ ¬ nI (k 0) = 11 from fun z => z ((ne 11 (by omega)).mpr q11)), h1 ⟨by omega, by omega⟩, zhr_r q11]
    exact ⟨_, rfl, zRf_3 R0, fun c q1 q2 => zup_c q1, fun i i1 i2 i3 i4 i5 => zup_k i4⟩
  rw [if_pos (show ¬ nI (k 0) = 11 from fun z => q11 ((ne 11 (by omega)).mp z))]
  by_cases q0 : k 0 = 0
  · rw [if_neg (show ¬ ¬ nI (k 0) = 0 from fun z => z ((ne 0 (by omega)).mpr q0)), zhr_0 q0]
    unfold f165
    rw [zbd_s]
    exact ⟨_, rfl, zRf_0 R0, fun c q1 q2 => by rw [zup_c q1, zup_c q1, zup_c q1, zup_c q1, zup_c q1], fun i i1 i2 i3 i4 i5 => by rw [zup_k i5, zup_k i4, zup_k i3, zup_k i2, zup_k i1]⟩
  rw [if_pos (show ¬ nI (k 0) = 0 from fun z => q0 ((ne 0 (by omega)).mp z))]
  by_cases q15 : k 0 = 15
  · rw [if_neg (show ¬ ¬ nI (k 0) = 15 from fun z => z ((ne 15 (by omega)).mpr q15)), zhr_m (by omega)]
    exact ⟨_, rfl, zRf_4 (v := 0) R0, fun c q1 q2 => zup_c q1, fun i i1 i2 i3 i4 i5 => zup_k i5⟩
  rw [if_pos (show ¬ nI (k 0) = 15 from fun z => q15 ((ne 15 (by omega)).mp z)), zhr_l (by omega), r4]
  unfold f161_128
  by_cases q12 : k 0 = 12
  · rw [if_neg (show ¬ ¬ nI (k 0) = 12 from fun z => z ((ne 12 (by omega)).mpr q12)), show nI (t 0 4) ||| 1 = nI (t 0 4 ||| 1) from nx_or _ 1, q12]
    exact ⟨_, rfl, zRf_4 R0, fun c q1 q2 => zup_c q1, fun i i1 i2 i3 i4 i5 => zup_k i5⟩
  rw [if_pos (show ¬ nI (k 0) = 12 from fun z => q12 ((ne 12 (by omega)).mp z))]
  by_cases q13 : k 0 = 13
  · rw [if_neg (show ¬ ¬ nI (k 0) = 13 from fun z => z ((ne 13 (by omega)).mpr q13)), show nI (t 0 4) ||| 2 = nI (t 0 4 ||| 2) from nx_or _ 2, q13]
    exact ⟨_, rfl, zRf_4 R0, fun c q1 q2 => zup_c q1, fun i i1 i2 i3 i4 i5 => zup_k i5⟩
  rw [if_pos (show ¬ nI (k 0) = 13 from fun z => q13 ((ne 13 (by omega)).mp z)), show nI (t 0 4) ||| 4 = nI (t 0 4 ||| 4) from nx_or _ 4, show k 0 = 14 by omega]
  exact ⟨_, rfl, zRf_4 R0, fun c q1 q2 => zup_c q1, fun i i1 i2 i3 i4 i5 => zup_k i5⟩
theorem f160_13_lp {K n : Nat} {t : zTau} {ks : Nat → Nat → Nat} (hK : 4 ≤ K) (hn : n ≤ 14) (hV : ∀ j, j < n → zVc (zfd t ks j) (ks j)) : ∀ d j q (g : zS), j + d = n → d < q → zRf (zfd t ks j) g → (∀ i, i < n → zR1 (ks i) i g) → g 222 6 = nI n → ∃ g', f160_13 K q (nI j) g = f160_36 K K 0 g' ∧ zRf (zfd t ks n) g' ∧ (∀ c, c ≠ 222 → c < 227 ∨ 231 < c → g' c = g c) ∧ ∀ i, i ≠ 9 → i ≠ 11 → i ≠ 14 → i ≠ 15 → i ≠ 16 → g' 222 i = g 222 i := by
  intro d
  induction d with
  | zero =>
    intro j q g h1 h2 R H h6
    obtain ⟨q, rfl⟩ : ∃ z, q = z + 1 := ⟨q - 1, by omega⟩
    obtain rfl : j = n := by omega
    rw [f160_13, h6, if_pos (nI_le (by omega) (by omega))]
    exact ⟨g, rfl, R, fun c _ _ => rfl, fun i _ _ _ _ _ => rfl⟩
  | succ d ih =>
    intro j q g h1 h2 R H h6
    obtain ⟨q, rfl⟩ : ∃ z, q = z + 1 := ⟨q - 1, by omega⟩
    obtain ⟨g1, a1, a2, a3, a4⟩ := f161_sp hK (by omega) (hV j (by omega)) R (H j (by omega))
    obtain ⟨g2, d1, d2, d3, d4⟩ := ih (j + 1) q g1 (by omega) (by omega) a2 (fun i hi => by
      have := H i hi
      unfold zR1
      rw [a3 226 (by decide) (by decide)]
      exact this) (by rw [a4 6 (by decide) (by decide) (by decide) (by decide) (by decide)]; exact h6)
    rw [f160_13, h6, if_neg (nI_ge (by omega) (by omega)), show 4 * nI j = nI (4 * j) from nI_mu 4 j, a1, zbd_s, nI_1]
    exact ⟨g2, d1, d2, fun c c1 c2 => by rw [d3 c c1 c2, a3 c c1 c2], fun i i1 i2 i3 i4 i5 => by rw [d4 i i1 i2 i3 i4 i5, a4 i i1 i2 i3 i4 i5]⟩
-- ===== the reference's row anew =====
def zfz (p r i : Nat) : Nat := if 1 ≤ i ∧ i < 9 ∧ (i - 1) % 4 < p then (if i < 5 then 2 * r else 10) else 0
theorem zfz_m : ∀ i, i < 9 → 1 ≤ i → (nI i - 1) - (nI i - 1) / 4 * 4 = nI ((i - 1) % 4) := by decide +kernel
theorem f160_36_st {K q i p r : Nat} {g : zS} (hi : i < 73) (hp : p ≤ 4) (hr : r ≤ 20) (h14 : g 222 14 = nI p) (h15 : g 222 15 = nI r) : f160_36 K (q + 1) (nI i) g = f160_36 K q (nI (i + 1)) (zup g 223 i (nI (zfz p r i))) := by
  have z : ∀ v : Int32, f160_99 K (f160_36 K q) (nI i) (nI i) v g = f160_36 K q (nI (i + 1)) (zup g 223 i v) := fun v => by
    unfold f160_99
    rw [if_pos (zin_i (show i < 803 by omega) (by decide)), nI_clamp (show i < 2 ^ 31 by omega), nI_1]
  have z0 : zfz p r i = 0 → f160_68 K (f160_36 K q) (nI i) g = f160_36 K q (nI (i + 1)) (zup g 223 i (nI (zfz p r i))) := fun e => by
    unfold f160_68 f160_69
    rw [if_neg (show ¬ ¬ (0 : Int32) = 0 from fun z => z rfl), z, e]
    rfl
  rw [f160_36, if_neg (show ¬ (73 : Int32) ≤ nI i from nI_ge (b := 73) hi (by omega))]
  by_cases q9 : 9 ≤ i
  · rw [if_pos (show (9 : Int32) ≤ nI i from nI_le (a := 9) q9 (by omega))]
    exact z0 (if_neg (by omega))
  rw [if_neg (show ¬ (9 : Int32) ≤ nI i from nI_ge (b := 9) (by omega) (by omega))]
  by_cases q0 : i = 0
  · rw [if_pos (show nI i ≤ (0 : Int32) from nI_le (b := 0) (by omega) (by omega))]
    exact z0 (if_neg (by omega))
  rw [if_neg (show ¬ nI i ≤ (0 : Int32) from nI_ge (a := 0) (by omega) (by omega)), zfz_m i (by omega) (by omega), h14]
  by_cases qp : (i - 1) % 4 < p
  · rw [if_neg (nI_ge qp (by omega))]
    unfold f160_69
    rw [if_pos (show ¬ (1 : Int32) = 0 by decide), h15]
    by_cases q5 : i < 5
    · rw [if_neg (show ¬ (5 : Int32) ≤ nI i from nI_ge (b := 5) q5 (by omega)), z, show 2 * nI r = nI (2 * r) from nI_mu 2 r, show zfz p r i = 2 * r from (if_pos ⟨by omega, by omega, qp⟩).trans (if_pos q5)]
    · rw [if_pos (show (5 : Int32) ≤ nI i from nI_le (a := 5) (by omega) (by omega)), z, show zfz p r i = 10 from (if_pos ⟨by omega, by omega, qp⟩).trans (if_neg q5)]
      rfl
  · rw [if_pos (nI_le (by omega) (by omega))]
    exact z0 (if_neg (fun z => qp z.2.2))
theorem f160_36_lp {K p r : Nat} (hp : p ≤ 4) (hr : r ≤ 20) : ∀ d i q (g : zS), i + d = 73 → d < q → g 222 14 = nI p → g 222 15 = nI r → ∃ g', f160_36 K q (nI i) g = some (g 222 6, g') ∧ (∀ c, c ≠ 222 → c ≠ 223 → c ≠ 224 → g' c = g c) ∧ (∀ k, k ≠ 18 → k ≠ 21 → k ≠ 1 → k ≠ 4 → g' 222 k = g 222 k) ∧ g' 222 18 = 0 ∧ g' 222 21 = 0 ∧ g' 222 1 = 0 ∧ g' 222 4 = 0 ∧ g' 224 0 = 0 ∧ g' 224 1 = 0 ∧ (∀ k, k < i → g' 223 k = g 223 k) ∧ ∀ k, i ≤ k → k < 73 → g' 223 k = nI (zfz p r k) := by
  intro d
  induction d with
  | zero =>
    intro i q g h1 h2 h14 h15
    obtain ⟨q, rfl⟩ : ∃ z, q = z + 1 := ⟨q - 1, by omega⟩
    obtain rfl : i = 73 := by omega
    rw [f160_36, if_pos (show (73 : Int32) ≤ nI 73 by decide), if_pos (show zin (0 : Int32) 2 from zin_i (i := 0) (by decide) (by decide)), if_pos (show zin (1 : Int32) 2 from zin_i (i := 1) (by decide) (by decide)), show (0 : Int32).toNatClampNeg = 0 by decide, show (1 : Int32).toNatClampNeg = 1 by decide]
    obtain ⟨g', hg⟩ : ∃ g', g' = zup (zup (zup (zup (zup (zup g 222 18 0) 222 21 0) 222 1 0) 224 0 0) 224 1 0) 222 4 0 := ⟨_, rfl⟩
    have k0 : ∀ k, k ≠ 18 → k ≠ 21 → k ≠ 1 → k ≠ 4 → g' 222 k = g 222 k := fun k a b c e => by rw [hg, zup_k e, zup_c (by decide), zup_c (by decide), zup_k c, zup_k b, zup_k a]
    rw [← hg, k0 6 (by decide) (by decide) (by decide) (by decide)]
    refine ⟨g', rfl, fun c c1 c2 c3 => by rw [hg, zup_c c1, zup_c c3, zup_c c3, zup_c c1, zup_c c1, zup_c c1], k0, ?_, ?_, ?_, ?_, ?_, ?_, fun k hk => ?_, fun k hk hk2 => by omega⟩
    · rw [hg, zup_k (by decide), zup_c (by decide), zup_c (by decide), zup_k (by decide), zup_k (by decide), zup_s]
    · rw [hg, zup_k (by decide), zup_c (by decide), zup_c (by decide), zup_k (by decide), zup_s]
    · rw [hg, zup_k (by decide), zup_c (by decide), zup_c (by decide), zup_s]
    · rw [hg, zup_s]
    · rw [hg, zup_c (by decide), zup_k (by decide), zup_s]
    · rw [hg, zup_c (by decide), zup_s]
    · rw [hg, zup_c (by decide), zup_c (by decide), zup_c (by decide), zup_c (by decide), zup_c (by decide), zup_c (by decide)]
  | succ d ih =>
    intro i q g h1 h2 h14 h15
    obtain ⟨q, rfl⟩ : ∃ z, q = z + 1 := ⟨q - 1, by omega⟩
    obtain ⟨g', a1, a2, a3, a4, a5, a6, a7, a8, a9, a10, a11⟩ := ih (i + 1) q (zup g 223 i (nI (zfz p r i))) (by omega) (by omega) (by rw [zup_c (by decide)]; exact h14) (by rw [zup_c (by decide)]; exact h15)
    rw [f160_36_st (by omega) hp hr h14 h15, a1, zup_c (by decide)]
    refine ⟨g', rfl, fun c c1 c2 c3 => by rw [a2 c c1 c2 c3, zup_c c2], fun k k1 k2 k3 k4 => by rw [a3 k k1 k2 k3 k4, zup_c (by decide)], a4, a5, a6, a7, a8, a9, fun k hk => by rw [a10 k (by omega), zup_k (by omega)], fun k hk hk2 => ?_⟩
    by_cases q1 : k = i
    · rw [q1, a10 i (by omega), zup_s]
    · exact a11 k (by omega) hk2
-- ===== the class's state anew =====
theorem f45_lp {K o n : Nat} (hn : zlen (o + 1) = n) (hb : n < 2 ^ 31) : ∀ d i q (g : zS), i + d = n → d < q → ∃ g', f45_2 K q o (nI i) g = some ((), g') ∧ (∀ c, c ≠ o + 1 → g' c = g c) ∧ (∀ k, k < i → g' (o + 1) k = g (o + 1) k) ∧ ∀ k, i ≤ k → k < n → g' (o + 1) k = 0 := by
  intro d
  induction d with
  | zero =>
    intro i q g h1 h2
    obtain ⟨q, rfl⟩ : ∃ z, q = z + 1 := ⟨q - 1, by omega⟩
    rw [f45_2, hn, if_pos (nI_le (by omega) (by omega))]
    exact ⟨g, rfl, fun c _ => rfl, fun k _ => rfl, fun k _ _ => by omega⟩
  | succ d ih =>
    intro i q g h1 h2
    obtain ⟨q, rfl⟩ : ∃ z, q = z + 1 := ⟨q - 1, by omega⟩
    obtain ⟨g', a1, a2, a3, a4⟩ := ih (i + 1) q (zup g (o + 1) i 0) (by omega) (by omega)
    rw [f45_2, hn, if_neg (nI_ge (by omega) (by omega)), if_pos (zin_i (show i < n by omega) hb), nI_clamp (show i < 2 ^ 31 by omega), nI_1, a1]
    refine ⟨g', rfl, fun c hc => by rw [a2 c hc, zup_c hc], fun k hk => by rw [a3 k (by omega), zup_k (by omega)], fun k hk hk2 => ?_⟩
    by_cases q1 : k = i
    · rw [q1, a3 i (by omega), zup_s]
    · exact a4 k (by omega) hk2
theorem f45_sp {K o n : Nat} {g : zS} (hn : zlen (o + 1) = n) (hb : n < 2 ^ 31) (hK : n < K) : ∃ g', f45 K o g = some ((), g') ∧ (∀ c, c ≠ o + 1 → g' c = g c) ∧ ∀ k, k < n → g' (o + 1) k = 0 := by
  obtain ⟨g', a1, a2, -, a4⟩ := f45_lp (K := K) hn hb n 0 K g (by omega) hK
  exact ⟨g', a1, a2, fun k hk => a4 k (Nat.zero_le _) hk⟩
theorem f44_lp {K p v : Nat} (hp : p ≤ 4) : ∀ d i q (g : zS), i + d = p → d < q → ∃ g', f44_49 K q 34 (nI p) (nI v) (nI i) g = some ((), g') ∧ (∀ c, c ≠ 36 → c ≠ 38 → g' c = g c) ∧ (∀ k, (k < i ∨ p ≤ k) → g' 36 k = g 36 k ∧ g' 38 k = g 38 k) ∧ ∀ k, i ≤ k → k < p → g' 36 k = nI v ∧ g' 38 k = nI 10 := by
  intro d
  induction d with
  | zero =>
    intro i q g h1 h2
    obtain ⟨q, rfl⟩ : ∃ z, q = z + 1 := ⟨q - 1, by omega⟩
    rw [f44_49, if_pos (nI_le (by omega) (by omega))]
    exact ⟨g, rfl, fun c _ _ => rfl, fun k _ => ⟨rfl, rfl⟩, fun k _ _ => by omega⟩
  | succ d ih =>
    intro i q g h1 h2
    obtain ⟨q, rfl⟩ : ∃ z, q = z + 1 := ⟨q - 1, by omega⟩
    obtain ⟨g', a1, a2, a3, a4⟩ := ih (i + 1) q (zup (zup g 36 i (nI v)) 38 i (nI 10)) (by omega) (by omega)
    have l1 : zlen (34 + 1 + 1) = 4 := by decide +kernel
    have l2 : zlen (34 + 3 + 1) = 4 := by decide +kernel
    rw [f44_49, if_neg (nI_ge (by omega) (by omega)), f14_eq (by rw [l1]; omega) (by rw [l1]; decide), zbd_s, f14_eq (by rw [l2]; omega) (by rw [l2]; decide), zbd_s, nI_1]
    refine ⟨g', a1, fun c c1 c2 => by rw [a2 c c1 c2, zup_c c2, zup_c c1], fun k hk => ?_, fun k hk hk2 => ?_⟩
    · obtain ⟨x1, x2⟩ := a3 k (by omega)
      rw [x1, x2, zup_c (by decide), zup_k (by omega), zup_k (by omega), zup_c (by decide)]
      exact ⟨rfl, rfl⟩
    · by_cases q1 : k = i
      · obtain ⟨x1, x2⟩ := a3 i (by omega)
        rw [q1, x1, x2, zup_c (by decide), zup_s, zup_s]
        exact ⟨rfl, rfl⟩
      · exact a4 k (by omega) hk2
theorem f44_sp {K p v : Nat} {g : zS} (hK : 50 ≤ K) (hp : p ≤ 4) : ∃ g', f44 K 34 (nI p) (nI v) g = some ((), g') ∧ (∀ c, c < 34 ∨ 46 < c → g' c = g c) ∧ g' 34 0 = 0 ∧ (∀ i, i < 4 → g' 36 i = nI (if i < p then v else 0) ∧ g' 38 i = nI (if i < p then 10 else 0) ∧ g' 40 i = 0 ∧ g' 42 i = 0) ∧ (∀ i, i < 40 → g' 44 i = 0) ∧ ∀ i, i < 16 → g' 46 i = 0 := by
  obtain ⟨g1, a1, a2, a3⟩ := f45_sp (K := K) (o := 34 + 1) (n := 4) (g := zup g 34 0 0) (by decide +kernel) (by decide) (by omega)
  obtain ⟨g2, b1, b2, b3⟩ := f45_sp (K := K) (o := 34 + 3) (n := 4) (g := g1) (by decide +kernel) (by decide) (by omega)
  obtain ⟨g3, c1, c2, c3⟩ := f45_sp (K := K) (o := 34 + 5) (n := 4) (g := g2) (by decide +kernel) (by decide) (by omega)
  obtain ⟨g4, d1, d2, d3⟩ := f45_sp (K := K) (o := 34 + 7) (n := 4) (g := g3) (by decide +kernel) (by decide) (by omega)
  obtain ⟨g5, e1, e2, e3⟩ := f45_sp (K := K) (o := 34 + 9) (n := 40) (g := g4) (by decide +kernel) (by decide) (by omega)
  obtain ⟨g6, h1, h2, h3⟩ := f45_sp (K := K) (o := 34 + 11) (n := 16) (g := g5) (by decide +kernel) (by decide) (by omega)
  obtain ⟨g7, i1, i2, i3, i4⟩ := f44_lp (K := K) (v := v) hp p 0 K g6 (by omega) (by omega)
  have k36 : ∀ i, i < 4 → g6 36 i = 0 := fun i hi => by rw [h2 36 (by decide), e2 36 (by decide), d2 36 (by decide), c2 36 (by decide), b2 36 (by decide)]; exact a3 i hi
  have k38 : ∀ i, i < 4 → g6 38 i = 0 := fun i hi => by rw [h2 38 (by decide), e2 38 (by decide), d2 38 (by decide), c2 38 (by decide)]; exact b3 i hi
  unfold f44
  rw [a1, zbd_s, b1, zbd_s, c1, zbd_s, d1, zbd_s, e1, zbd_s, h1, zbd_s]
  refine ⟨g7, i1, fun c hc => by rw [i2 c (by omega) (by omega), h2 c (by omega), e2 c (by omega), d2 c (by omega), c2 c (by omega), b2 c (by omega), a2 c (by omega), zup_c (by omega)], ?_, fun i hi => ⟨?_, ?_, ?_, ?_⟩, fun i hi => ?_, fun i hi => ?_⟩
  · rw [i2 34 (by decide) (by decide), h2 34 (by decide), e2 34 (by decide), d2 34 (by decide), c2 34 (by decide), b2 34 (by decide), a2 34 (by decide), zup_s]
  · by_cases q : i < p
    · rw [if_pos q]; exact (i4 i (Nat.zero_le _) q).1
    · rw [if_neg q, (i3 i (Or.inr (by omega))).1, k36 i hi]; rfl
  · by_cases q : i < p
    · rw [if_pos q]; exact (i4 i (Nat.zero_le _) q).2
    · rw [if_neg q, (i3 i (Or.inr (by omega))).2, k38 i hi]; rfl
  · rw [i2 40 (by decide) (by decide), h2 40 (by decide), e2 40 (by decide), d2 40 (by decide)]; exact c3 i hi
  · rw [i2 42 (by decide) (by decide), h2 42 (by decide), e2 42 (by decide)]; exact d3 i hi
  · rw [i2 44 (by decide) (by decide), h2 44 (by decide)]; exact e3 i hi
  · rw [i2 46 (by decide) (by decide)]; exact h3 i hi
