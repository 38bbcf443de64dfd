-- ===== the reference reads a clause; fault =====
theorem f151_u {K c r : Nat} {t : zTau} {k : Nat → Nat} {g : zS} (hc : c < 16) (hr : g 222 6 = nI r) (hcn : zRcn t g) (hk : k 0 = c) : ∃ G, (if ¬ nI c = 0 then zbd (f156 K (nI c) g) fun r267 g266 => if r267 = 0 then f151_113 K (nI c) (g266 222 25) g266 else f151_113 K (nI c) (g266 222 25 + 1) g266 else f151_113 K (nI c) 0 g) = some (1, G) ∧ (∀ c, c ≠ 222 → G c = g c) ∧ (∀ k, k ≠ 6 → k ≠ 25 → k ≠ 26 → k ≠ 27 → G 222 k = g 222 k) ∧ G 222 6 = nI (r + 1) ∧ zRcn (zhr t k) G := by
  obtain ⟨h25, h26, h27⟩ := hcn
  obtain ⟨z1, z2, z3⟩ := @zhr_n t k
  rw [hk] at z1 z2 z3
  have e0 : nI c = 0 ↔ c = 0 := nI_eq (b := 0) (by omega) (by omega)
  have e6 : nI c = 6 ↔ c = 6 := nI_eq (b := 6) (by omega) (by omega)
  have fin : ∀ X Y Z : Int32, ∃ G, G = zup (zup (zup (zup g 222 25 X) 222 27 Y) 222 26 Z) 222 6 (nI (r + 1)) ∧ (∀ c, c ≠ 222 → G c = g c) ∧ (∀ k, k ≠ 6 → k ≠ 25 → k ≠ 26 → k ≠ 27 → G 222 k = g 222 k) ∧ G 222 6 = nI (r + 1) ∧ G 222 25 = X ∧ G 222 26 = Z ∧ G 222 27 = Y := fun X Y Z => ⟨_, rfl, fun c hc => by rw [zup_c hc, zup_c hc, zup_c hc, zup_c hc], fun k k1 k2 k3 k4 => by rw [zup_k k1, zup_k k3, zup_k k4, zup_k k2], zup_s _ _ _ _, by rw [zup_k (by decide), zup_k (by decide), zup_k (by decide), zup_s], by rw [zup_k (by decide), zup_s], by rw [zup_k (by decide), zup_k (by decide), zup_s]⟩
  have r6 : ∀ X Y Z : Int32, (zup (zup (zup g 222 25 X) 222 27 Y) 222 26 Z) 222 6 = nI r := fun X Y Z => by rw [zup_k (by decide), zup_k (by decide), zup_k (by decide)]; exact hr
  have r26 : ∀ X Y : Int32, (zup (zup g 222 25 X) 222 27 Y) 222 26 = nI (t 0 2) := fun X Y => by rw [zup_k (by decide), zup_k (by decide)]; exact h26
  have r27 : ∀ X : Int32, (zup g 222 25 X) 222 27 = nI (t 0 1) := fun X => by rw [zup_k (by decide)]; exact h27
  unfold f151_113 f151_145
  by_cases q0 : c = 0
  · rw [if_neg (fun z => z (e0.mpr q0)), if_neg (fun z => z (e0.mpr q0)), if_neg (fun z => z (e0.mpr q0)), r6, nI_1]
    obtain ⟨G, g1, g2, g3, g4, g5, g6, g7⟩ := fin 0 0 0
    refine ⟨G, by rw [g1], g2, g3, g4, ?_, ?_, ?_⟩
    · rw [g5, z1, if_pos q0]; rfl
    · rw [g6, z3, if_pos q0]; rfl
    · rw [g7, z2, if_pos q0]; rfl
  have q0' : ¬ nI c = 0 := fun z => q0 (e0.mp z)
  rw [if_neg q0] at z1 z2 z3
  rw [if_pos q0', f156_eq (by omega), zbd_s, h25]
  -- words
  have go : ∀ W : Nat, W = (zhr t k) 0 0 → ∃ G, (if ¬ nI c = 0 then zbd (f157 K (nI c) (zup g 222 25 (nI W))) fun r256 g255 => if r256 = 0 then (if ¬ nI c = 0 then if ¬ nI c = 6 then some ((1 : Int32), zup (zup (zup g255 222 27 (g255 222 27)) 222 26 ((zup g255 222 27 (g255 222 27)) 222 26)) 222 6 ((zup (zup g255 222 27 (g255 222 27)) 222 26 ((zup g255 222 27 (g255 222 27)) 222 26)) 222 6 + 1)) else some (1, zup (zup (zup g255 222 27 (g255 222 27)) 222 26 ((zup g255 222 27 (g255 222 27)) 222 26 + 1)) 222 6 ((zup (zup g255 222 27 (g255 222 27)) 222 26 ((zup g255 222 27 (g255 222 27)) 222 26 + 1)) 222 6 + 1)) else some (1, zup (zup (zup g255 222 27 (g255 222 27)) 222 26 0) 222 6 ((zup (zup g255 222 27 (g255 222 27)) 222 26 0) 222 6 + 1))) else (if ¬ nI c = 0 then if ¬ nI c = 6 then some (1, zup (zup (zup g255 222 27 (g255 222 27 + 1)) 222 26 ((zup g255 222 27 (g255 222 27 + 1)) 222 26)) 222 6 ((zup (zup g255 222 27 (g255 222 27 + 1)) 222 26 ((zup g255 222 27 (g255 222 27 + 1)) 222 26)) 222 6 + 1)) else some (1, zup (zup (zup g255 222 27 (g255 222 27 + 1)) 222 26 ((zup g255 222 27 (g255 222 27 + 1)) 222 26 + 1)) 222 6 ((zup (zup g255 222 27 (g255 222 27 + 1)) 222 26 ((zup g255 222 27 (g255 222 27 + 1)) 222 26 + 1)) 222 6 + 1)) else some (1, zup (zup (zup g255 222 27 (g255 222 27 + 1)) 222 26 0) 222 6 ((zup (zup g255 222 27 (g255 222 27 + 1)) 222 26 0) 222 6 + 1))) else (if ¬ nI c = 0 then if ¬ nI c = 6 then some (1, zup (zup (zup (zup g 222 25 (nI W)) 222 27 0) 222 26 ((zup (zup g 222 25 (nI W)) 222 27 0) 222 26)) 222 6 ((zup (zup (zup g 222 25 (nI W)) 222 27 0) 222 26 ((zup (zup g 222 25 (nI W)) 222 27 0) 222 26)) 222 6 + 1)) else some (1, zup (zup (zup (zup g 222 25 (nI W)) 222 27 0) 222 26 ((zup (zup g 222 25 (nI W)) 222 27 0) 222 26 + 1)) 222 6 ((zup (zup (zup g 222 25 (nI W)) 222 27 0) 222 26 ((zup (zup g 222 25 (nI W)) 222 27 0) 222 26 + 1)) 222 6 + 1)) else some (1, zup (zup (zup (zup g 222 25 (nI W)) 222 27 0) 222 26 0) 222 6 ((zup (zup (zup g 222 25 (nI W)) 222 27 0) 222 26 0) 222 6 + 1)))) = some (1, G) ∧ (∀ c, c ≠ 222 → G c = g c) ∧ (∀ k, k ≠ 6 → k ≠ 25 → k ≠ 26 → k ≠ 27 → G 222 k = g 222 k) ∧ G 222 6 = nI (r + 1) ∧ zRcn (zhr t k) G := by
    intro W hW
    rw [if_pos q0', f157_eq (by omega), zbd_s, r27]
    by_cases qp : 7 ≤ c ∧ c ≤ 10
    · rw [if_pos qp, if_neg (show ¬ (1 : Int32) = 0 by decide), if_pos q0', if_pos (show ¬ nI c = 6 from fun z => by have := e6.mp z; omega), r26, r6, nI_1, nI_1]
      obtain ⟨G, g1, g2, g3, g4, g5, g6, g7⟩ := fin (nI W) (nI (t 0 1 + 1)) (nI (t 0 2))
      refine ⟨G, by rw [g1], g2, g3, g4, by rw [g5, hW], ?_, ?_⟩
      · rw [g6, z3, if_neg (by omega)]
      · rw [g7, z2, if_pos qp]
    · rw [if_neg qp, if_pos (show (0 : Int32) = 0 from rfl), if_pos q0', r26, r6, r6, nI_1]
      by_cases q6 : c = 6
      · rw [if_neg (show ¬ ¬ nI c = 6 from fun z => z (e6.mpr q6)), nI_1]
        obtain ⟨G, g1, g2, g3, g4, g5, g6, g7⟩ := fin (nI W) (nI (t 0 1)) (nI (t 0 2 + 1))
        refine ⟨G, by rw [g1], g2, g3, g4, by rw [g5, hW], ?_, ?_⟩
        · rw [g6, z3, if_pos q6]
        · rw [g7, z2, if_neg qp]
      · rw [if_pos (show ¬ nI c = 6 from fun z => q6 (e6.mp z))]
        obtain ⟨G, g1, g2, g3, g4, g5, g6, g7⟩ := fin (nI W) (nI (t 0 1)) (nI (t 0 2))
        refine ⟨G, by rw [g1], g2, g3, g4, by rw [g5, hW], ?_, ?_⟩
        · rw [g6, z3, if_neg q6]
        · rw [g7, z2, if_neg qp]
  by_cases qw : 1 ≤ c ∧ c ≤ 5
  · rw [if_pos qw, if_neg (show ¬ (1 : Int32) = 0 by decide), nI_1]
    exact go (t 0 0 + 1) (by rw [z1, if_pos qw])
  · rw [if_neg qw, if_pos (show (0 : Int32) = 0 from rfl)]
    exact go (t 0 0) (by rw [z1, if_neg qw])
theorem f151_sp {K m s r : Nat} {L : Nat → Nat} {t : zTau} {g : zS} (hK : 200 ≤ K) (hm : m ≤ 160) (hL : ∀ i, i < m → L i ≤ 255) (B : zBd t) (S : zRS L m s g) (hr : g 222 6 = nI r) (hr13 : r ≤ 13) (hcn : zRcn t g) : ∃ g', f151 K g = some (nI (zRc L m t s).1.toNat, g') ∧ zRS L m (zRc L m t s).2.1 g' ∧ (∀ c, c ≠ 222 → c ≠ 226 → g' c = g c) ∧ (∀ k, k < 22 → k ≠ 6 → g' 222 k = g 222 k) ∧ (∀ i, i < 4 * r → g' 226 i = g 226 i) ∧ ((zRc L m t s).1 = true → g' 222 6 = nI (r + 1) ∧ zRcn (zhr t (zRc L m t s).2.2) g' ∧ zR1 (zRc L m t s).2.2 r g') := by
  have h16 := @zcw_le L s (zE L m s)
  have hs := S.2.1
  have B0 : zBd t := B
  obtain ⟨b1, b2, b3, -⟩ := B
  obtain ⟨h25, h26, h27⟩ := hcn
  unfold f151
  rw [f152_sp (by omega) hm hL S.2.1 S.1 S.2.2.2.1 S.2.2.2.2, zbd_s, zRc_re]
  by_cases q16 : zcw L s (zE L m s) = 16
  · have e : zcd (zcw L s (zE L m s)) = -1 := by unfold zcd; rw [if_pos q16]
    rw [if_pos e, if_pos (Or.inl q16)]
    exact ⟨g, rfl, S, fun c _ _ => rfl, fun k _ _ => rfl, fun i _ => rfl, fun z => absurd z Bool.false_ne_true⟩
  have e : zcd (zcw L s (zE L m s)) = nI (zcw L s (zE L m s)) := by unfold zcd; rw [if_neg q16]
  generalize hcc : zcw L s (zE L m s) = c at q16 e h16
  rw [e, if_neg (nI_nm1 (by omega)), f156_eq (by omega), zbd_s]
  have e6 : nI c = 6 ↔ c = 6 := nI_eq (b := 6) (by omega) (by omega)
  -- what comes once there is room
  have go : ¬ zfull t c → ∃ g', f151_58 K (nI c) g = some (nI (if c = 16 ∨ zfull t c then (false, s, fun _ => 0) else zRe L m t c (zNx L m s) : Bool × Nat × (Nat → Nat)).1.toNat, g') ∧ zRS L m (if c = 16 ∨ zfull t c then (false, s, fun _ => 0) else zRe L m t c (zNx L m s) : Bool × Nat × (Nat → Nat)).2.1 g' ∧ (∀ c, c ≠ 222 → c ≠ 226 → g' c = g c) ∧ (∀ k, k < 22 → k ≠ 6 → g' 222 k = g 222 k) ∧ (∀ i, i < 4 * r → g' 226 i = g 226 i) ∧ ((if c = 16 ∨ zfull t c then (false, s, fun _ => 0) else zRe L m t c (zNx L m s) : Bool × Nat × (Nat → Nat)).1 = true → g' 222 6 = nI (r + 1) ∧ zRcn (zhr t (if c = 16 ∨ zfull t c then (false, s, fun _ => 0) else zRe L m t c (zNx L m s) : Bool × Nat × (Nat → Nat)).2.2) g' ∧ zR1 (if c = 16 ∨ zfull t c then (false, s, fun _ => 0) else zRe L m t c (zNx L m s) : Bool × Nat × (Nat → Nat)).2.2 r g') := by
    intro hf
    rw [if_neg (show ¬ (c = 16 ∨ zfull t c) from fun z => by rcases z with z | z; exact q16 z; exact hf z)]
    obtain ⟨g1, a1, a2, a3, a4⟩ := f149_n hK hm hL S
    have hr1 : g1 222 6 = nI r := by rw [a4 6 (by decide) (by decide) (by decide)]; exact hr
    have S1 := zRS_226 (i := 4 * r) (v := nI c) a2
    obtain ⟨g2, d1, d2, d3, d4, d5, d6⟩ := f158_sp (K := K) (r := r) (c := c) (t := t) hK hm hL B0 S1 (by rw [zup_c (by decide)]; exact hr1) hr13 (by omega) (zup_s _ _ _ _) (by rw [zup_c (by decide), a4 25 (by decide) (by decide) (by decide)]; exact h25)
    have k222 : ∀ k, k ≠ 22 → k ≠ 23 → k ≠ 24 → g2 222 k = g 222 k := fun k k1 k2 k3 => by rw [d4 k k1 k2 k3, zup_c (by decide), a4 k k1 k2 k3]
    have k226 : ∀ i, i < 4 * r → g2 226 i = g 226 i := fun i hi => by rw [d5 i (by omega), zup_k (by omega), a3 226 (by decide)]
    have kc : ∀ c, c ≠ 222 → c ≠ 226 → g2 c = g c := fun c c1 c2 => by rw [d3 c c1 c2, zup_c c2, a3 c c1]
    unfold f151_58
    rw [a1, zbd_s, hr1, show (4 : Int32) = nI 4 from rfl, nI_mu, if_pos (zin_i (show 4 * r < 56 by omega) (by decide)), nI_clamp (show 4 * r < 2 ^ 31 by omega), d1, zbd_s]
    cases hb : (zRe L m t c (zNx L m s)).1 with
    | false =>
      rw [if_neg (show ¬ ¬ nI false.toNat = 0 by decide)]
      exact ⟨g2, rfl, d2, kc, fun k k1 k2 => k222 k (by omega) (by omega) (by omega), k226, fun z => absurd z Bool.false_ne_true⟩
    | true =>
      obtain ⟨d7, d8⟩ := d6 hb
      obtain ⟨G, u1, u2, u3, u4, u5⟩ := f151_u (K := K) (c := c) (r := r) (t := t) (k := (zRe L m t c (zNx L m s)).2.2) (g := g2) (by omega) (by rw [k222 6 (by decide) (by decide) (by decide)]; exact hr) ⟨by rw [k222 25 (by decide) (by decide) (by decide)]; exact h25, by rw [k222 26 (by decide) (by decide) (by decide)]; exact h26, by rw [k222 27 (by decide) (by decide) (by decide)]; exact h27⟩ d8
      rw [if_pos (show ¬ nI true.toNat = 0 by decide), u1]
      refine ⟨G, rfl, ⟨⟨by rw [u3 4 (by decide) (by decide) (by decide) (by decide)]; exact d2.1.1, fun i hi => by rw [u2 225 (by decide)]; exact d2.1.2 i hi⟩, d2.2.1, by rw [u3 22 (by decide) (by decide) (by decide) (by decide)]; exact d2.2.2.1, by rw [u3 23 (by decide) (by decide) (by decide) (by decide)]; exact d2.2.2.2.1, by rw [u3 24 (by decide) (by decide) (by decide) (by decide)]; exact d2.2.2.2.2⟩, fun c c1 c2 => by rw [u2 c c1, kc c c1 c2], fun k k1 k2 => by rw [u3 k k2 (by omega) (by omega) (by omega), k222 k (by omega) (by omega) (by omega)], fun i hi => by rw [u2 226 (by decide), k226 i hi], fun _ => ⟨u4, u5, ?_⟩⟩
      unfold zR1
      rw [u2 226 (by decide)]
      exact d7
  -- no room
  have full : zfull t c → ∃ g', some ((0 : Int32), g) = some (nI (if c = 16 ∨ zfull t c then (false, s, fun _ => 0) else zRe L m t c (zNx L m s) : Bool × Nat × (Nat → Nat)).1.toNat, g') ∧ zRS L m (if c = 16 ∨ zfull t c then (false, s, fun _ => 0) else zRe L m t c (zNx L m s) : Bool × Nat × (Nat → Nat)).2.1 g' ∧ (∀ c, c ≠ 222 → c ≠ 226 → g' c = g c) ∧ (∀ k, k < 22 → k ≠ 6 → g' 222 k = g 222 k) ∧ (∀ i, i < 4 * r → g' 226 i = g 226 i) ∧ ((if c = 16 ∨ zfull t c then (false, s, fun _ => 0) else zRe L m t c (zNx L m s) : Bool × Nat × (Nat → Nat)).1 = true → g' 222 6 = nI (r + 1) ∧ zRcn (zhr t (if c = 16 ∨ zfull t c then (false, s, fun _ => 0) else zRe L m t c (zNx L m s) : Bool × Nat × (Nat → Nat)).2.2) g' ∧ zR1 (if c = 16 ∨ zfull t c then (false, s, fun _ => 0) else zRe L m t c (zNx L m s) : Bool × Nat × (Nat → Nat)).2.2 r g') := by
    intro hf
    rw [if_pos (Or.inr hf)]
    exact ⟨g, rfl, S, fun c _ _ => rfl, fun k _ _ => rfl, fun i _ => rfl, fun z => absurd z Bool.false_ne_true⟩
  have h41 : ¬ (1 ≤ c ∧ c ≤ 5 ∧ t 0 0 = 10) → ¬ (7 ≤ c ∧ c ≤ 10 ∧ t 0 1 = 4) → f151_41 K (nI c) g = if c = 6 ∧ t 0 2 = 6 then some (0, g) else f151_58 K (nI c) g := by
    intro n1 n2
    unfold f151_41
    rw [h26]
    by_cases q6 : c = 6
    · rw [if_neg (show ¬ ¬ nI c = 6 from fun z => z (e6.mpr q6))]
      by_cases q : t 0 2 = 6
      · rw [if_neg (show ¬ ¬ nI (t 0 2) = 6 from fun z => z (by rw [q]; rfl)), if_pos ⟨q6, q⟩]
      · rw [if_pos (show ¬ nI (t 0 2) = 6 from fun z => q ((nI_eq (b := 6) (by omega) (by omega)).mp z)), if_neg (fun z => q z.2)]
    · rw [if_pos (show ¬ nI c = 6 from fun z => q6 (e6.mp z)), if_neg (fun z => q6 z.1)]
  have h26' : ¬ (1 ≤ c ∧ c ≤ 5 ∧ t 0 0 = 10) → f151_26 K (nI c) g = if (7 ≤ c ∧ c ≤ 10 ∧ t 0 1 = 4) ∨ (c = 6 ∧ t 0 2 = 6) then some (0, g) else f151_58 K (nI c) g := by
    intro n1
    unfold f151_26
    rw [f157_eq (by omega), zbd_s]
    by_cases q : 7 ≤ c ∧ c ≤ 10
    · rw [if_pos q, if_neg (show ¬ (1 : Int32) = 0 by decide), h27]
      by_cases q2 : t 0 1 = 4
      · rw [if_pos (show nI (t 0 1) = 4 by rw [q2]; rfl), if_pos (Or.inl ⟨q.1, q.2, q2⟩)]
      · rw [if_neg (show ¬ nI (t 0 1) = 4 from fun z => q2 ((nI_eq (b := 4) (by omega) (by omega)).mp z)), h41 n1 (fun z => q2 z.2.2), if_neg (show ¬ (c = 6 ∧ t 0 2 = 6) by omega), if_neg (show ¬ ((7 ≤ c ∧ c ≤ 10 ∧ t 0 1 = 4) ∨ (c = 6 ∧ t 0 2 = 6)) by omega)]
    · rw [if_neg q, if_pos (show (0 : Int32) = 0 from rfl), h41 n1 (fun z => q ⟨z.1, z.2.1⟩)]
      by_cases q6 : c = 6 ∧ t 0 2 = 6
      · rw [if_pos q6, if_pos (Or.inr q6)]
      · rw [if_neg q6, if_neg (show ¬ ((7 ≤ c ∧ c ≤ 10 ∧ t 0 1 = 4) ∨ (c = 6 ∧ t 0 2 = 6)) from fun z => by rcases z with z | z; exact q ⟨z.1, z.2.1⟩; exact q6 z)]
  have last : ¬ (1 ≤ c ∧ c ≤ 5 ∧ t 0 0 = 10) → ∃ g', f151_26 K (nI c) g = some (nI (if c = 16 ∨ zfull t c then (false, s, fun _ => 0) else zRe L m t c (zNx L m s) : Bool × Nat × (Nat → Nat)).1.toNat, g') ∧ zRS L m (if c = 16 ∨ zfull t c then (false, s, fun _ => 0) else zRe L m t c (zNx L m s) : Bool × Nat × (Nat → Nat)).2.1 g' ∧ (∀ c, c ≠ 222 → c ≠ 226 → g' c = g c) ∧ (∀ k, k < 22 → k ≠ 6 → g' 222 k = g 222 k) ∧ (∀ i, i < 4 * r → g' 226 i = g 226 i) ∧ ((if c = 16 ∨ zfull t c then (false, s, fun _ => 0) else zRe L m t c (zNx L m s) : Bool × Nat × (Nat → Nat)).1 = true → g' 222 6 = nI (r + 1) ∧ zRcn (zhr t (if c = 16 ∨ zfull t c then (false, s, fun _ => 0) else zRe L m t c (zNx L m s) : Bool × Nat × (Nat → Nat)).2.2) g' ∧ zR1 (if c = 16 ∨ zfull t c then (false, s, fun _ => 0) else zRe L m t c (zNx L m s) : Bool × Nat × (Nat → Nat)).2.2 r g') := by
    intro n1
    rw [h26' n1]
    by_cases q : (7 ≤ c ∧ c ≤ 10 ∧ t 0 1 = 4) ∨ (c = 6 ∧ t 0 2 = 6)
    · rw [if_pos q]
      exact full (Or.inr q)
    · rw [if_neg q]
      exact go (fun z => by rcases z with z | z; exact n1 z; exact q z)
  by_cases qw : 1 ≤ c ∧ c ≤ 5
  · rw [if_pos qw, if_neg (show ¬ (1 : Int32) = 0 by decide), h25]
    by_cases q2 : t 0 0 = 10
    · rw [if_pos (show nI (t 0 0) = 10 by rw [q2]; rfl)]
      exact full (Or.inl ⟨qw.1, qw.2, q2⟩)
    · rw [if_neg (show ¬ nI (t 0 0) = 10 from fun z => q2 ((nI_eq (b := 10) (by omega) (by omega)).mp z))]
      exact last (fun z => q2 z.2.2)
  · rw [if_neg qw, if_pos (show (0 : Int32) = 0 from rfl)]
    exact last (fun z => qw ⟨z.1, z.2.1⟩)
theorem zE_59 {L : Nat → Nat} {m s : Nat} (hs : s < m) (h : L s = 59) : zE L m s = s + 1 := by
  unfold zE
  rw [if_pos hs]
  cases m - (s + 1) with
  | zero => rfl
  | succ d =>
    rw [zex_s, if_neg (show ¬ (s + 1 < m ∧ 0 < zso (L s) ∧ zso (L (s + 1)) = zso (L s)) by rw [h]; exact fun z => absurd z.2.1 (by decide))]
/-- a clause, then the rest -/
def zRD (K q : Nat) (g : zS) : Option (Int32 × zS) := zbd (f151 K g) fun r g => if ¬ r = 0 then f148_50 K q g else some (g 222 23, g)
theorem f148_lp {K m : Nat} {L : Nat → Nat} (hK : 200 ≤ K) (hm : m ≤ 160) (hL : ∀ i, i < m → L i ≤ 255) : ∀ d k q (t : zTau) s ks (g : zS), k + d = 15 → d ≤ q → 0 < d → 0 < k → zBd t → zRS L m s g → g 222 6 = nI (k - 1) → zRcn t g → (∀ j, j < k - 1 → zR1 (ks j) j g) → ∃ g', zRD K q g = some (zrq (zrl L m d t s k ks).1, g') ∧ (∀ c, c ≠ 222 → c ≠ 226 → g' c = g c) ∧ (∀ k, k < 22 → k ≠ 6 → g' 222 k = g 222 k) ∧ ((zrl L m d t s k ks).1 = 999 → g' 222 6 = nI (zrl L m d t s k ks).2.1 ∧ ∀ j, j < (zrl L m d t s k ks).2.1 → zR1 ((zrl L m d t s k ks).2.2.2 j) j g') := by
  intro d
  induction d with
  | zero => intro k q t s ks g _ _ h; omega
  | succ d ih =>
    intro k q t s ks g h1 h2 _ hk0 B S hr hcn hks
    obtain ⟨q, rfl⟩ : ∃ z, q = z + 1 := ⟨q - 1, by omega⟩
    obtain ⟨ok1, ok2⟩ := zRc_ok (L := L) (m := m) (s := s) (t := t) S.2.1 B
    obtain ⟨g1, e1, e2, e3, e4, e5, e6⟩ := f151_sp hK hm hL B S hr (by omega) hcn
    have rq : ∀ c : Nat, ¬ c = 999 → zrq c = nI c := fun c hc => if_neg hc
    have n999 : ¬ (zRc L m t s).2.1 = 999 := by omega
    unfold zRD
    rw [e1, zbd_s, zrl_s]
    cases hb : (zRc L m t s).1 with
    | false =>
      rw [if_neg (show ¬ ¬ nI false.toNat = 0 by decide), if_neg (show ¬ false = true by decide)]
      refine ⟨g1, ?_, e3, e4, fun z => absurd z n999⟩
      rw [e2.2.2.2.1, rq _ n999]
    | true =>
      obtain ⟨f1, f2, f3⟩ := e6 hb
      have V := ok2 hb
      have B1 := zhr_bd B V
      have hks1 : ∀ j, j < k → zR1 (if j = k - 1 then (zRc L m t s).2.2 else ks j) j g1 := fun j hj => by
        by_cases q1 : j = k - 1
        · rw [if_pos q1, q1]; exact f3
        · rw [if_neg q1]
          obtain ⟨x1, x2, x3⟩ := hks j (by omega)
          exact ⟨by rw [e5 _ (by omega)]; exact x1, fun z => by rw [e5 _ (by omega)]; exact x2 z, fun z => by rw [e5 _ (by omega), e5 _ (by omega)]; exact x3 z⟩
      rw [if_pos (show ¬ nI true.toNat = 0 by decide), if_pos (show true = true from rfl), f148_50, e2.1.1, e2.2.2.2.1]
      by_cases y1 : (zRc L m t s).2.1 < m
      · obtain ⟨z1, z2, z3⟩ := zE_le (L := L) ok1
        have z3 := z3 y1
        have l1 := hL _ y1
        have f6 : g1 222 6 = nI k := by rw [f1, show k - 1 + 1 = k by omega]
        -- it ends here
        have stop : (k = 14 ∨ ¬ L (zRc L m t s).2.1 = 59) → ∃ g', f148_101 K (f148_50 K q) g1 = some (zrq (if k = 14 ∨ ¬ L (zRc L m t s).2.1 = 59 then ((zRc L m t s).2.1, k, t, ks) else zrl L m d (zhr t (zRc L m t s).2.2) (zNx L m (zRc L m t s).2.1) (k + 1) (fun j => if j = k - 1 then (zRc L m t s).2.2 else ks j)).1, g') ∧ (∀ c, c ≠ 222 → c ≠ 226 → g' c = g c) ∧ (∀ k, k < 22 → k ≠ 6 → g' 222 k = g 222 k) ∧ ((if k = 14 ∨ ¬ L (zRc L m t s).2.1 = 59 then ((zRc L m t s).2.1, k, t, ks) else zrl L m d (zhr t (zRc L m t s).2.2) (zNx L m (zRc L m t s).2.1) (k + 1) (fun j => if j = k - 1 then (zRc L m t s).2.2 else ks j)).1 = 999 → g' 222 6 = nI (if k = 14 ∨ ¬ L (zRc L m t s).2.1 = 59 then ((zRc L m t s).2.1, k, t, ks) else zrl L m d (zhr t (zRc L m t s).2.2) (zNx L m (zRc L m t s).2.1) (k + 1) (fun j => if j = k - 1 then (zRc L m t s).2.2 else ks j)).2.1 ∧ ∀ j, j < (if k = 14 ∨ ¬ L (zRc L m t s).2.1 = 59 then ((zRc L m t s).2.1, k, t, ks) else zrl L m d (zhr t (zRc L m t s).2.2) (zNx L m (zRc L m t s).2.1) (k + 1) (fun j => if j = k - 1 then (zRc L m t s).2.2 else ks j)).2.1 → zR1 ((if k = 14 ∨ ¬ L (zRc L m t s).2.1 = 59 then ((zRc L m t s).2.1, k, t, ks) else zrl L m d (zhr t (zRc L m t s).2.2) (zNx L m (zRc L m t s).2.1) (k + 1) (fun j => if j = k - 1 then (zRc L m t s).2.2 else ks j)).2.2.2 j) j g') := by
          intro hst
          rw [if_pos hst]
          unfold f148_101 f148_102 f148_116
          refine ⟨g1, ?_, e3, e4, fun z => absurd z n999⟩
          rw [if_pos (show (0 : Int32) = 0 from rfl), if_neg (show ¬ ¬ (0 : Int32) = 0 from fun z => z rfl), e2.2.2.2.1, rq _ n999]
        rw [if_neg (nI_ge y1 (by omega)), e2.2.2.2.2, pk_sub z1, if_pos y1]
        by_cases y3 : L (zRc L m t s).2.1 = 59
        · rw [if_neg (show ¬ ¬ nI (zE L m (zRc L m t s).2.1 - (zRc L m t s).2.1) = 1 from fun z => z (by rw [zE_59 y1 y3, show (zRc L m t s).2.1 + 1 - (zRc L m t s).2.1 = 1 by omega]; rfl)), if_pos (zin_i (show (zRc L m t s).2.1 < 160 by omega) (by decide)), nI_clamp (show (zRc L m t s).2.1 < 2 ^ 31 by omega), e2.1.2 _ y1, if_neg (show ¬ ¬ nI (L (zRc L m t s).2.1) = 59 from fun z => z (by rw [y3]; rfl)), f6]
          by_cases y2 : k = 14
          · rw [if_pos (show (14 : Int32) ≤ nI k from nI_le (a := 14) (by omega) (by omega))]
            exact stop (Or.inl y2)
          · rw [if_neg (show ¬ (14 : Int32) ≤ nI k from nI_ge (b := 14) (by omega) (by omega)), if_neg (show ¬ (k = 14 ∨ ¬ L (zRc L m t s).2.1 = 59) from fun z => by rcases z with z | z; exact y2 z; exact z y3)]
            unfold f148_102 f148_116
            obtain ⟨g2, a1, a2, a3, a4⟩ := f149_n hK hm hL e2
            obtain ⟨g3, d1, d2, d3, d4⟩ := ih (k + 1) q (zhr t (zRc L m t s).2.2) (zNx L m (zRc L m t s).2.1) (fun j => if j = k - 1 then (zRc L m t s).2.2 else ks j) g2 (by omega) (by omega) (by omega) (by omega) B1 a2 (by rw [a4 6 (by decide) (by decide) (by decide), f6]; rfl) ⟨by rw [a4 25 (by decide) (by decide) (by decide)]; exact f2.1, by rw [a4 26 (by decide) (by decide) (by decide)]; exact f2.2.1, by rw [a4 27 (by decide) (by decide) (by decide)]; exact f2.2.2⟩ (fun j hj => by
              have := hks1 j (by omega)
              unfold zR1
              rw [a3 226 (by decide)]
              exact this)
            rw [if_neg (show ¬ (1 : Int32) = 0 by decide), a1, zbd_s]
            exact ⟨g3, d1, fun c c1 c2 => by rw [d2 c c1 c2, a3 c c1, e3 c c1 c2], fun k k1 k2 => by rw [d3 k k1 k2, a4 k (by omega) (by omega) (by omega), e4 k k1 k2], d4⟩
        · have hst : k = 14 ∨ ¬ L (zRc L m t s).2.1 = 59 := Or.inr y3
          by_cases y4 : zE L m (zRc L m t s).2.1 - (zRc L m t s).2.1 = 1
          · rw [if_neg (show ¬ ¬ nI (zE L m (zRc L m t s).2.1 - (zRc L m t s).2.1) = 1 from fun z => z (by rw [y4]; rfl)), if_pos (zin_i (show (zRc L m t s).2.1 < 160 by omega) (by decide)), nI_clamp (show (zRc L m t s).2.1 < 2 ^ 31 by omega), e2.1.2 _ y1, if_pos (show ¬ nI (L (zRc L m t s).2.1) = 59 from fun z => y3 ((nI_eq (b := 59) (by omega) (by omega)).mp z))]
            exact stop hst
          · rw [if_pos (show ¬ nI (zE L m (zRc L m t s).2.1 - (zRc L m t s).2.1) = 1 from fun z => y4 ((nI_eq (b := 1) (by omega) (by omega)).mp z))]
            exact stop hst
      · rw [if_pos (nI_le (by omega) (by omega)), if_neg y1]
        refine ⟨g1, rfl, e3, e4, fun _ => ⟨by rw [f1, show k - 1 + 1 = k by omega], hks1⟩⟩
/-- the reference reads the text -/
theorem zrd_r {K m : Nat} {L : Nat → Nat} {t : zTau} {g : zS} (hK : 200 ≤ K) (hm : m ≤ 160) (hL : ∀ i, i < m → L i ≤ 255) (T : zRT L m g) (B : zBd t) (R : zRf t g) : ∃ g2, f148 K g = some (zrq (zrl L m 14 t (zBg L m 0) 1 (fun _ _ => 0)).1, g2) ∧ (∀ c, c ≠ 222 → c ≠ 226 → g2 c = g c) ∧ (∀ k, k < 22 → k ≠ 6 → g2 222 k = g 222 k) ∧ ((zrl L m 14 t (zBg L m 0) 1 (fun _ _ => 0)).1 = 999 → g2 222 6 = nI (zrl L m 14 t (zBg L m 0) 1 (fun _ _ => 0)).2.1 ∧ ∀ j, j < (zrl L m 14 t (zBg L m 0) 1 (fun _ _ => 0)).2.1 → zR1 ((zrl L m 14 t (zBg L m 0) 1 (fun _ _ => 0)).2.2.2 j) j g2) := by
  obtain ⟨⟨r0, r1, r2, r3, r4⟩, -⟩ := R
  obtain ⟨h0, hh⟩ : ∃ h0, h0 = zup (zup (zup (zup (zup g 222 22 0) 222 6 0) 222 25 (nI (t 0 0))) 222 26 (nI (t 0 2))) 222 27 (nI (t 0 1)) := ⟨_, rfl⟩
  have hc : ∀ c, c ≠ 222 → h0 c = g c := fun c q => by rw [hh, zup_c q, zup_c q, zup_c q, zup_c q, zup_c q]
  have hk : ∀ k, k < 22 → k ≠ 6 → h0 222 k = g 222 k := fun k k1 k2 => by rw [hh, zup_k (by omega), zup_k (by omega), zup_k (by omega), zup_k k2, zup_k (by omega)]
  have T0 : zRT L m h0 := ⟨by rw [hk 4 (by decide) (by decide)]; exact T.1, fun i hi => by rw [hc 225 (by decide)]; exact T.2 i hi⟩
  obtain ⟨g1, a1, a2, a3, a4, a5, a6⟩ := f149_sp (K := K) (i := 0) hK hm hL (Nat.zero_le _) T0 (by rw [hh, zup_k (by decide), zup_k (by decide), zup_k (by decide), zup_k (by decide), zup_s]; rfl)
  have S1 : zRS L m (zBg L m 0) g1 := ⟨⟨by rw [a3 4 (by decide) (by decide) (by decide)]; exact T0.1, fun i hi => by rw [a2 225 (by decide)]; exact T0.2 i hi⟩, (zBg_le rfl (Nat.zero_le _)).2, a4, a5, a6⟩
  obtain ⟨g2, d1, d2, d3, d4⟩ := f148_lp (K := K) hK hm hL 14 1 K t (zBg L m 0) (fun _ _ => 0) g1 rfl (by omega) (by omega) (by omega) B S1 (by rw [a3 6 (by decide) (by decide) (by decide), hh, zup_k (by decide), zup_k (by decide), zup_k (by decide), zup_s]; rfl) ⟨by rw [a3 25 (by decide) (by decide) (by decide), hh, zup_k (by decide), zup_k (by decide), zup_s], by rw [a3 26 (by decide) (by decide) (by decide), hh, zup_k (by decide), zup_s], by rw [a3 27 (by decide) (by decide) (by decide), hh, zup_s]⟩ (fun j hj => absurd hj (Nat.not_lt_zero _))
  refine ⟨g2, ?_, fun c c1 c2 => by rw [d2 c c1 c2, a2 c c1, hc c c1], fun k k1 k2 => by rw [d3 k k1 k2, a3 k (by omega) (by omega) (by omega), hk k k1 k2], d4⟩
  unfold f148
  have x1 : (zup (zup g 222 22 0) 222 6 0) 222 9 = nI (t 0 0) := by rw [zup_k (by decide), zup_k (by decide)]; exact r0
  rw [x1]
  have x2 : (zup (zup (zup g 222 22 0) 222 6 0) 222 25 (nI (t 0 0))) 222 11 = nI (t 0 2) := by rw [zup_k (by decide), zup_k (by decide), zup_k (by decide)]; exact r2
  rw [x2]
  have x3 : (zup (zup (zup (zup g 222 22 0) 222 6 0) 222 25 (nI (t 0 0))) 222 26 (nI (t 0 2))) 222 14 = nI (t 0 1) := by rw [zup_k (by decide), zup_k (by decide), zup_k (by decide), zup_k (by decide)]; exact r1
  rw [x3, ← hh, a1, zbd_s]
  exact d1
theorem ztxt {g : zS} (h : zItx g) : ∃ m L, m ≤ 160 ∧ (∀ i, i < m → L i ≤ 255) ∧ zCT L m g ∧ zRT L m g := by
  obtain ⟨m, h1, h2, h3, h4⟩ := h
  have e : ∀ i, i < m → g 3 i = nI (g 3 i).toNatClampNeg ∧ (g 3 i).toNatClampNeg ≤ 255 := fun i hi => by
    obtain ⟨-, v, v1, v2⟩ := h4 i hi
    rw [v2, nI_clamp (by omega)]
    exact ⟨rfl, v1⟩
  exact ⟨m, fun i => (g 3 i).toNatClampNeg, h1, fun i hi => (e i hi).2, ⟨h2, fun i hi => (e i hi).1⟩, h3, fun i hi => (h4 i hi).1.symm.trans (e i hi).1⟩
theorem zrd_sc {g g2 : zS} (h : ∀ c, c ≠ 1 → c < 19 ∨ 33 < c → g2 c = g c) (h1 : g2 1 1 = g 1 1) (h0 : g2 1 0 = g 1 0) : zScr g g2 := by
  intro c k hk
  by_cases q : c = 1
  · subst q
    unfold zKeep at hk
    have : k = 0 ∨ k = 1 := by omega
    rcases this with rfl | rfl
    · exact h0
    · exact h1
  · rw [h c q (by unfold zKeep at hk; omega)]
theorem zrd_sr {g0 g g2 : zS} (s : zScr g0 g) (h : ∀ c, c ≠ 222 → c ≠ 226 → g2 c = g c) (h1 : ∀ k, k < 22 → k ≠ 6 → g2 222 k = g 222 k) : zScr g0 g2 := by
  intro c k hk
  rw [← s c k hk]
  by_cases q : c = 222
  · subst q
    unfold zKeep at hk
    exact h1 k (by omega) (by omega)
  · rw [h c q (by unfold zKeep at hk; omega)]
theorem zRT_scr {L : Nat → Nat} {m : Nat} {g0 g : zS} (s : zScr g0 g) (T : zRT L m g0) : zRT L m g := ⟨by rw [zScr_222 s (by omega)]; exact T.1, fun i hi => by rw [zScr_c s (by omega)]; exact T.2 i hi⟩
theorem zRf_scr {t : zTau} {g0 g : zS} (s : zScr g0 g) (R : zRf t g0) : zRf t g := by
  unfold zRf
  rw [zScr_222 s (k := 9) (by omega), zScr_222 s (k := 14) (by omega), zScr_222 s (k := 11) (by omega), zScr_222 s (k := 15) (by omega), zScr_222 s (k := 16) (by omega), zScr_c s (c := 227) (by omega), zScr_c s (c := 228) (by omega), zScr_c s (c := 229) (by omega), zScr_c s (c := 230) (by omega), zScr_c s (c := 231) (by omega)]
  exact R
theorem zp_fault {K : Nat} (hK : 200 ≤ K) (n : Nat) : zPair (zInv n) (zInv (n + 1)) (f16 K) (f148 K) := by
  refine zPair_scr fun g I => ?_
  obtain ⟨t, B, C, R⟩ := zto_tau I.2.1
  obtain ⟨m, L, hm, hL, T, RT⟩ := ztxt I.1
  obtain ⟨g1, g2, e1, e2, e3, e4, e5, -⟩ := zrd_c hK hm hL T B C
  have s2 : zScr g g2 := zrd_sc e3 e4 e5
  refine ⟨zrq (zrl L m 14 t (zBg L m 0) 1 (fun _ _ => 0)).1, zR_eq (g := g2) ?_ ⟨rfl, s2⟩, fun g3 s3 => ?_⟩
  · unfold f16
    rw [e1, zbd_s, e2, zbd_s]
  · obtain ⟨g4, d1, d2, d3, -⟩ := zrd_r hK hm hL (zRT_scr s3 RT) B (zRf_scr s3 R)
    exact zR_eq (g := g4) d1 ⟨rfl, zrd_sr s3 d2 d3⟩
