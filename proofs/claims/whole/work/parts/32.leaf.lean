-- ===== leaves: what the small methods answer =====
theorem zbd_s {α β : Type} {a : α} {g : zS} {k : α → zS → Option β} : zbd (some (a, g)) k = k a g := rfl
theorem zup_s (g : zS) (c k : Nat) (v : Int32) : zup g c k v c k = v := by
  unfold zup
  rw [if_pos rfl, if_pos rfl]
theorem zup_c {g : zS} {c k : Nat} {v : Int32} {c2 : Nat} (h : c2 ≠ c) : zup g c k v c2 = g c2 := by
  funext k2
  unfold zup
  rw [if_neg h]
theorem zup_k {g : zS} {c k : Nat} {v : Int32} {c2 k2 : Nat} (h : k2 ≠ k) : zup g c k v c2 k2 = g c2 k2 := by
  unfold zup
  by_cases h2 : c2 = c
  · rw [if_pos h2, if_neg h]
  · rw [if_neg h2]
theorem zup_e {g : zS} {c k : Nat} {v : Int32} {k2 : Nat} : zup g c k v c k2 = if k2 = k then v else g c k2 := by
  unfold zup
  rw [if_pos rfl]
/-- is x from a to b: 1 or 0 -/
def zwi (x a b : Int32) : Int32 := if x < a then 0 else if b < x then 0 else 1
theorem f12_eq (K : Nat) (x a b : Int32) (g : zS) : f12 K x a b g = some (zwi x a b, g) := by
  unfold f12 zwi
  by_cases h : x < a
  · rw [if_pos h, if_pos h]
  · rw [if_neg h, if_neg h]
    by_cases h2 : b < x
    · rw [if_pos h2, if_pos h2]
    · rw [if_neg h2, if_neg h2]
theorem zw_lt (a b : Int32) : a.toInt64 < b.toInt64 ↔ a < b := by rw [Int64.lt_iff_toInt_lt, Int32.lt_iff_toInt_lt, Int32.toInt_toInt64, Int32.toInt_toInt64]
theorem f146_eq (K : Nat) (x a b : Int32) (g : zS) : f146 K x.toInt64 a.toInt64 b.toInt64 g = some (zwi x a b, g) := by
  unfold f146 zwi
  by_cases h : x < a
  · rw [if_pos ((lg_cmp_lt _ _).mpr ((zw_lt _ _).mpr h)), if_pos h]
  · rw [if_neg (fun q => h ((zw_lt _ _).mp ((lg_cmp_lt _ _).mp q))), if_neg h]
    by_cases h2 : b < x
    · rw [if_pos ((lg_cmp_gt _ _).mpr ((zw_lt _ _).mpr h2)), if_pos h2]
    · rw [if_neg (fun q => h2 ((zw_lt _ _).mp ((lg_cmp_gt _ _).mp q))), if_neg h2]
theorem zwi_01 (x a b : Int32) : zwi x a b = 0 ∨ zwi x a b = 1 := by
  unfold zwi
  by_cases h : x < a
  · rw [if_pos h]; exact Or.inl rfl
  · rw [if_neg h]
    by_cases h2 : b < x
    · rw [if_pos h2]; exact Or.inl rfl
    · rw [if_neg h2]; exact Or.inr rfl
theorem zwi_1 {x a b : Int32} (h : ¬ zwi x a b = 0) : ¬ x < a ∧ ¬ b < x := by
  unfold zwi at h
  by_cases h1 : x < a
  · rw [if_pos h1] at h; exact absurd rfl h
  · rw [if_neg h1] at h
    by_cases h2 : b < x
    · rw [if_pos h2] at h; exact absurd rfl h
    · exact ⟨h1, h2⟩
theorem zwi_of {x : Int32} {b : Nat} (hb : b < 2 ^ 31) (h : ¬ zwi x 0 (nI b) = 0) : ∃ j : Nat, j ≤ b ∧ x = nI j := by
  obtain ⟨h1, h2⟩ := zwi_1 h
  obtain ⟨j, h3, rfl⟩ := nI_of h1
  exact ⟨j, Nat.le_of_not_lt fun q => h2 ((nI_ltI hb h3).mpr q), rfl⟩
/-- x from 0 to b - 1, for a count b -/
theorem zwi_cnt {x : Int32} {b : Nat} (hb : b < 2 ^ 31) (h : ¬ zwi x 0 (nI b - 1) = 0) : ∃ j : Nat, j < b ∧ x = nI j := by
  cases b with
  | zero =>
    obtain ⟨h1, h2⟩ := zwi_1 h
    exfalso
    rw [Int32.lt_iff_toInt_lt, show (0 : Int32).toInt = 0 from by decide] at h1
    rw [Int32.lt_iff_toInt_lt, show (nI 0 - 1).toInt = -1 from by decide] at h2
    omega
  | succ b =>
    rw [nI_pred] at h
    obtain ⟨j, h1, h2⟩ := zwi_of (by omega) h
    exact ⟨j, by omega, h2⟩
theorem zin_i {i n : Nat} (h : i < n) (hn : n < 2 ^ 31) : zin (nI i) n := by
  refine ⟨?_, ?_⟩ <;> rw [nI_toInt (by omega)] <;> omega
theorem f14_eq {K o : Nat} {i : Nat} {v : Int32} {g : zS} (h : i < zlen (o + 1)) (hn : zlen (o + 1) < 2 ^ 31) : f14 K o (nI i) v g = some ((), zup g (o + 1) i v) := by
  unfold f14
  rw [if_neg (nI_pos (by omega)), if_neg (fun q => absurd ((nI_leI hn (by omega)).mp q) (by omega)), if_pos (zin_i h hn), nI_clamp (by omega)]
theorem f21_eq {K o : Nat} {i : Nat} {g : zS} (h : i < zlen (o + 1)) (hn : zlen (o + 1) < 2 ^ 31) : f21 K o (nI i) g = some (g (o + 1) i, g) := by
  unfold f21
  rw [if_neg (nI_pos (by omega)), if_neg (fun q => absurd ((nI_leI hn (by omega)).mp q) (by omega)), if_pos (zin_i h hn), nI_clamp (by omega)]
theorem f48_eq (K : Nat) (x : Int32) (g : zS) : f48 K x g = some (zwi x 0 (g 4 0 - 1), g) := by
  unfold f48
  rw [f12_eq, zbd_s, if_pos (zwi_01 _ _ _)]
theorem f53_eq (K : Nat) (x : Int32) (g : zS) : f53 K x g = some (zwi x 0 (g 4 1 - 1), g) := by
  unfold f53
  rw [f12_eq, zbd_s, if_pos (zwi_01 _ _ _)]
theorem f167_eq (K : Nat) (x : Int32) (g : zS) : f167 K x g = some (zwi x 0 (g 222 9 - 1), g) := by
  unfold f167
  rw [show (0 : Int64) = (0 : Int32).toInt64 from rfl, f146_eq, zbd_s, if_pos (zwi_01 _ _ _)]
theorem f170_eq (K : Nat) (x : Int32) (g : zS) : f170 K x g = some (zwi x 0 (g 222 14 - 1), g) := by
  unfold f170
  rw [show (0 : Int64) = (0 : Int32).toInt64 from rfl, f146_eq, zbd_s, if_pos (zwi_01 _ _ _)]
-- ===== the first pairs =====
theorem zp_erase (K n : Nat) : zPair (zInv n) (zInv (n + 1)) (f15 K) (f147 K) := by
  intro g h
  obtain ⟨⟨m, t1, t2, t3, t4⟩, h2, h3, h4, h5, h6⟩ := zInv_mono n g h
  refine ⟨g 1 1, zup g 1 1 0, zup (zup g 1 1 0) 222 4 0, rfl, ?_, ⟨0, by omega, rfl, rfl, fun i hi => by omega⟩, zIto_fr h2 (fun k _ => by rw [zup_c (by decide), zup_c (by decide)]) ⟨rfl, rfl, rfl, rfl, rfl⟩ ⟨rfl, rfl, rfl, rfl, rfl, rfl, rfl⟩ ⟨rfl, rfl, rfl, rfl, rfl⟩, zIst_fr h3 rfl (fun i _ => rfl) ⟨rfl, rfl, rfl, rfl, rfl, rfl⟩ rfl, zIpa_fr h4 (fun c _ _ => by rw [zup_c (by omega), zup_c (by omega)]) rfl (fun i _ => rfl) rfl rfl, zIli_fr h5 rfl rfl rfl rfl rfl, zIdr_fr h6 rfl rfl (fun e _ => ⟨by rw [zup_c (by omega), zup_c (by omega)], by rw [zup_c (by omega), zup_c (by omega)]⟩) rfl rfl rfl⟩
  unfold f147
  rw [zup_c (c := 1) (by decide), t2, t3]
theorem zp_wipe (K n : Nat) : zPair (zInv n) (zInv (n + 1)) (f70 K) (f181 K) := by
  intro g h
  obtain ⟨h1, h2, h3, h4, ⟨m, t1, t2, t3, t4⟩, h6⟩ := zInv_mono n g h
  refine ⟨g 180 1, zup g 180 1 0, zup (zup g 180 1 0) 222 18 0, rfl, ?_, zItx_fr h1 rfl rfl rfl rfl, zIto_fr h2 (fun k _ => by rw [zup_c (by decide), zup_c (by decide)]) ⟨rfl, rfl, rfl, rfl, rfl⟩ ⟨rfl, rfl, rfl, rfl, rfl, rfl, rfl⟩ ⟨rfl, rfl, rfl, rfl, rfl⟩, zIst_fr h3 rfl (fun i _ => rfl) ⟨rfl, rfl, rfl, rfl, rfl, rfl⟩ rfl, zIpa_fr h4 (fun c _ _ => by rw [zup_c (by omega), zup_c (by omega)]) rfl (fun i _ => rfl) rfl rfl, ⟨0, by omega, rfl, rfl, fun i hi => by omega⟩, zIdr_fr h6 rfl rfl (fun e _ => ⟨by rw [zup_c (by omega), zup_c (by omega)], by rw [zup_c (by omega), zup_c (by omega)]⟩) rfl rfl rfl⟩
  unfold f181
  rw [zup_c (c := 180) (by decide), t2, t3]
theorem zp_burn (K n : Nat) : zPair (zInv n) (zInv (n + 1)) (f121 K) (f215 K) := by
  intro g h
  obtain ⟨h1, h2, h3, h4, h5, ⟨z0, m, t1, t2, t3, t4⟩⟩ := zInv_mono n g h
  refine ⟨g 186 4, zup g 186 4 0, zup (zup g 186 4 0) 222 21 0, rfl, ?_, zItx_fr h1 rfl rfl rfl rfl, zIto_fr h2 (fun k _ => by rw [zup_c (by decide), zup_c (by decide)]) ⟨rfl, rfl, rfl, rfl, rfl⟩ ⟨rfl, rfl, rfl, rfl, rfl, rfl, rfl⟩ ⟨rfl, rfl, rfl, rfl, rfl⟩, zIst_fr h3 rfl (fun i _ => rfl) ⟨rfl, rfl, rfl, rfl, rfl, rfl⟩ rfl, zIpa_fr h4 (fun c _ _ => by rw [zup_c (by omega), zup_c (by omega)]) rfl (fun i _ => rfl) rfl rfl, zIli_fr h5 rfl rfl rfl rfl rfl, ⟨z0, 0, by omega, rfl, rfl, fun i hi => by omega⟩⟩
  unfold f215
  rw [zup_c (c := 186) (by decide), t2, t3]
