-- ===== undo =====
/-- all but the state of now and the past rests on cells that stand -/
theorem zInv_fr {n : Nat} {g g' : zS} (I : zInv n g) (a : ∀ c, c ≠ 223 → c ≠ 224 → c ≠ 222 → (c < 34 ∨ 179 < c) → g' c = g c) (b : ∀ k, k ≠ 1 → g' 222 k = g 222 k) (h3 : zIst n 34 0 g') (h4 : zIpa n g') : zInv n g' := by
  obtain ⟨i1, i2, i3, i4, i5, i6⟩ := I
  have e : ∀ c k, c ≠ 223 → c ≠ 224 → c ≠ 222 → (c < 34 ∨ 179 < c) → g' c k = g c k := fun c k h1 h2 h3 h4 => by rw [a c h1 h2 h3 h4]
  refine ⟨zItx_fr i1 (e _ _ (by decide) (by decide) (by decide) (by decide)) (b _ (by decide)) (a _ (by decide) (by decide) (by decide) (by decide)) (a _ (by decide) (by decide) (by decide) (by decide)), zIto_fr i2 (fun k _ => e _ _ (by decide) (by decide) (by decide) (by decide)) ⟨b _ (by decide), b _ (by decide), b _ (by decide), b _ (by decide), b _ (by decide)⟩ ?_ ?_, h3, h4, zIli_fr i5 (e _ _ (by decide) (by decide) (by decide) (by decide)) (b _ (by decide)) (a _ (by decide) (by decide) (by decide) (by decide)) (a _ (by decide) (by decide) (by decide) (by decide)) (e _ _ (by decide) (by decide) (by decide) (by decide)), zIdr_fr i6 (e _ _ (by decide) (by decide) (by decide) (by decide)) (b _ (by decide)) (fun q _ => ⟨e _ _ (by omega) (by omega) (by omega) (by omega), a _ (by omega) (by omega) (by omega) (by omega)⟩) (a _ (by decide) (by decide) (by decide) (by decide)) (a _ (by decide) (by decide) (by decide) (by decide)) (e _ _ (by decide) (by decide) (by decide) (by decide)) (e _ _ (by decide) (by decide) (by decide) (by decide))⟩
  · refine ⟨?_, ?_, ?_, ?_, ?_, ?_, ?_⟩ <;> exact a _ (by decide) (by decide) (by decide) (by decide)
  · refine ⟨?_, ?_, ?_, ?_, ?_⟩ <;> exact a _ (by decide) (by decide) (by decide) (by decide)
theorem zp_undo {K : Nat} (hK : 100 ≤ K) (n : Nat) : zPair (zInv n) (zInv (n + 1)) (f93 K) (f197 K) := by
  intro g h
  have I := zInv_mono n g h
  have I2 := I
  obtain ⟨-, -, s0, ⟨⟨nw, sz, a1, a2, a3, a4, a5, a6⟩, kept⟩, -, -⟩ := I2
  by_cases hz : sz = 0
  · refine ⟨-4, g, g, ?_, ?_, I⟩
    · unfold f93 f94
      rw [a3, f79_eq (by decide : zlen 48 = 8) (by decide) a1, zbd_s, if_pos (by rw [a4, hz]; rfl), zbd_s, if_pos rfl]
    · unfold f197
      rw [if_neg (fun q => q (by rw [a5, hz]; rfl))]
  have hz4 : ¬ g 47 3 = 0 := by rw [a4]; exact nI_ne0 (by omega) (by omega)
  have hz5 : ¬ g 222 1 = 0 := by rw [a5]; exact nI_ne0 (by omega) (by omega)
  obtain ⟨g1, e1, e2, e3⟩ := f80_sp (K := K) (s := 34) (t := 50 + 13 * nw) (g := g) (by omega) zLens_n (zLens_u nw a1) (by omega)
  have e47 : g1 47 = g 47 := e2 47 (by omega)
  obtain ⟨nv, n1, n2, n3⟩ : ∃ nv : Nat, nv < 8 ∧ nv % 8 = (nw + 7) % 8 ∧ (if g1 47 2 ≤ 0 then some ((1 : Int32), (zup (zup g1 47 2 7) 47 3 (((zup g1 47 2 7) 47 3) - 1))) else (some (1, (zup (zup g1 47 2 ((g1 47 2) - 1)) 47 3 (((zup g1 47 2 ((g1 47 2) - 1)) 47 3) - 1))))) = some (1, zup (zup g1 47 2 (nI nv)) 47 3 (nI (sz - 1))) := by
    have q : ∀ v, (zup g1 47 2 v) 47 3 - 1 = nI (sz - 1) := by
      intro v
      rw [zup_k (by decide), e47, a4]
      obtain ⟨s, hs⟩ : ∃ s, sz = s + 1 := ⟨sz - 1, by omega⟩
      rw [hs, nI_pred]
      rfl
    rw [q, q, e47, a3]
    by_cases hn : nw = 0
    · exact ⟨7, by omega, by omega, by rw [hn, if_pos (by decide)]; rfl⟩
    · obtain ⟨s, hs⟩ : ∃ s, nw = s + 1 := ⟨nw - 1, by omega⟩
      exact ⟨s, by omega, by omega, by rw [hs, if_neg (nI_nle (by omega) (by omega)), nI_pred]⟩
  have hg2 : ∀ c, c ≠ 47 → (c < 34 ∨ 46 < c) → (zup (zup g1 47 2 (nI nv)) 47 3 (nI (sz - 1))) c = g c := fun c h1 h2 => by rw [zup_c h1, zup_c h1, e2 c (by omega)]
  obtain ⟨g4, d1, d2, d3, d4⟩ := f189_sp (K := K) (a := 219 + 73 * (sz - 1)) (b := 0) (g := zup (zup (zup g1 47 2 (nI nv)) 47 3 (nI (sz - 1))) 222 1 (nI (sz - 1))) (by omega) (by omega) (by omega) (by omega)
  have key : ∀ c, c ≠ 223 → c ≠ 222 → c ≠ 47 → (c < 34 ∨ 46 < c) → g4 c = g c := fun c h1 h2 h3 h4 => by rw [d2 c h1, zup_c h2, hg2 c h3 h4]
  have k223 : ∀ k, 73 ≤ k → g4 223 k = g 223 k := fun k hk => by rw [d4 k (by omega), zup_c (by decide), hg2 223 (by decide) (by decide)]
  have k47 : ∀ k, g4 47 k = if k = 3 then nI (sz - 1) else if k = 2 then nI nv else g 47 k := fun k => by rw [d2 47 (by decide), zup_c (by decide), zup_e, zup_e, e47]
  have k222 : ∀ k, k ≠ 1 → g4 222 k = g 222 k := fun k hk => by rw [d2 222 (by decide), zup_k hk, hg2 222 (by decide) (by decide)]
  have k41 : g4 4 1 = g 4 1 := by rw [key 4 (by decide) (by decide) (by decide) (by decide)]
  refine ⟨nI (sz - 1), zup (zup g1 47 2 (nI nv)) 47 3 (nI (sz - 1)), g4, ?_, ?_, zInv_fr I (fun c h1 h2 h3 h4 => key c h1 h3 (by omega) (by omega)) k222 ?_ ⟨⟨nv, sz - 1, n1, by omega, by rw [k47]; rfl, by rw [k47]; rfl, ?_, fun t ht => ?_⟩, ?_⟩⟩
  · unfold f93 f94
    rw [a3, f79_eq (by decide : zlen 48 = 8) (by decide) a1, zbd_s, if_neg hz4, zcs_s, zel48 nw a1, e1, zbd_s, n3, zbd_s, if_neg (by decide), zup_s]
  · unfold f197
    have q1 : (zup (zup g1 47 2 (nI nv)) 47 3 (nI (sz - 1))) 222 1 = nI sz := by rw [hg2 222 (by decide) (by decide), a5]
    have q2 : nI sz - 1 = nI (sz - 1) := by
      obtain ⟨s, hs⟩ : ∃ s, sz = s + 1 := ⟨sz - 1, by omega⟩
      rw [hs, nI_pred]
      rfl
    rw [q1, if_pos (nI_ne0 (by omega) (by omega)), q2, zup_s, show (219 : Int32) = nI 219 from rfl, show (73 : Int32) = nI 73 from rfl, nI_mu, nI_add, show (0 : Int32) = nI 0 from rfl, d1, zbd_s, d2 222 (by decide), zup_s]
  · refine zIst_copy (a6 0 (by omega)) (g' := g4) ?_ (fun k hk => ?_) k41
    · obtain ⟨r1, r2, r3, r4⟩ := e3
      have ev : ∀ c, c ≠ 223 → c ≠ 222 → c ≠ 47 → g4 c = g1 c := fun c h1 h2 h3 => by rw [d2 c h1, zup_c h2, zup_c h3, zup_c h3]
      rw [show (nw + 8 - 0) % 8 = nw by omega]
      unfold zSame
      rw [ev 34 (by decide) (by decide) (by decide), ev (34 + 2) (by decide) (by decide) (by decide), ev (34 + 4) (by decide) (by decide) (by decide), ev (34 + 6) (by decide) (by decide) (by decide), ev (34 + 8) (by decide) (by decide) (by decide), ev (34 + 10) (by decide) (by decide) (by decide), ev (34 + 12) (by decide) (by decide) (by decide)]
      exact ⟨r1, r2, r3, r4⟩
    · rw [d3 k hk, zup_c (by decide), hg2 223 (by decide) (by decide), Nat.sub_zero]
  · rw [d2 222 (by decide), zup_s]
  · have := a6 (t + 1) (by omega)
    rw [show (nv + 8 - t) % 8 = (nw + 8 - (t + 1)) % 8 by omega, show sz - 1 - 1 - t = sz - 1 - (t + 1) by omega]
    exact zIst_fr this (by rw [key _ (by omega) (by omega) (by omega) (by omega)]) (fun i _ => k223 _ (by omega)) ⟨key _ (by omega) (by omega) (by omega) (by omega), key _ (by omega) (by omega) (by omega) (by omega), key _ (by omega) (by omega) (by omega) (by omega), key _ (by omega) (by omega) (by omega) (by omega), key _ (by omega) (by omega) (by omega) (by omega), key _ (by omega) (by omega) (by omega) (by omega)⟩ k41
  · obtain ⟨b0, b1, u1, u2, u3, u4, u5⟩ := kept
    have e224 : g4 224 = g 224 := key 224 (by decide) (by decide) (by decide) (by decide)
    refine ⟨b0, b1, by rw [k47]; exact u1, by rw [e224]; exact u2, by rw [e224]; exact u3, fun q => zIst_fr (u4 q) (by rw [key _ (by decide) (by decide) (by decide) (by decide)]) (fun i _ => k223 _ (by omega)) ⟨key _ (by decide) (by decide) (by decide) (by decide), key _ (by decide) (by decide) (by decide) (by decide), key _ (by decide) (by decide) (by decide) (by decide), key _ (by decide) (by decide) (by decide) (by decide), key _ (by decide) (by decide) (by decide) (by decide), key _ (by decide) (by decide) (by decide) (by decide)⟩ k41, fun q => zIst_fr (u5 q) (by rw [key _ (by decide) (by decide) (by decide) (by decide)]) (fun i _ => k223 _ (by omega)) ⟨key _ (by decide) (by decide) (by decide) (by decide), key _ (by decide) (by decide) (by decide) (by decide), key _ (by decide) (by decide) (by decide) (by decide), key _ (by decide) (by decide) (by decide) (by decide), key _ (by decide) (by decide) (by decide) (by decide), key _ (by decide) (by decide) (by decide) (by decide)⟩ k41⟩
