-- ===== the reference weighs the orders =====
theorem zScr_hi {g0 g g' : zS} (s : zScr g0 g) (h : ∀ c, c ≠ 222 → c < 235 → g' c = g c) (k : ∀ i, i < 22 → g' 222 i = g 222 i) : zScr g0 g' := by
  intro c i hk
  rw [← s c i hk]
  by_cases q : c = 222
  · subst q
    exact k i (by unfold zKeep at hk; omega)
  · rw [h c q (by unfold zKeep at hk; omega)]
theorem zmx_i {x y : Int32} : (if x ≤ y then y else x) = if y < x then x else y := by
  by_cases q : y < x
  · rw [if_neg (fun z => znle.mp z q), if_pos q]
  · rw [if_pos (znle.mpr q), if_neg q]
theorem zgd_9 {m : Nat} {l p : List Nat} (hl : l.length = m) (hw : ∀ z, z ∈ l → z < 10) (hp : List.Perm p l) {i : Nat} (hi : i < m) : p.getD i 0 ≤ 9 := by
  have h1 : p.getD i 0 ∈ p := zgd_mem p i (by rw [hp.length_eq, hl]; exact hi)
  have := hw _ (hp.mem_iff.mp h1)
  omega
theorem f202_lp {K m n : Nat} {g0 : zS} {u : Nat → Nat} (hK : 20 ≤ K) (hm : m ≤ 6) (I : zInv n g0) (hu : ∀ i, i < m → u i < 10 ∧ nI (u i) < g0 4 0 ∧ g0 232 i = nI (u i)) (h18 : g0 222 18 = nI m) : ∀ d q v (g : zS), v + d = zfc m → d < q → zScr g0 g → zBst m (fun p => zGp g0 (g0 34 0) m p ∧ ∃ w, w < v ∧ p = zRw m u w) (zCp g0 (g0 34 0) m) (g 222 32) (g 222 33) (g 237) → ∃ g', f202_12 K q (nI v) g = some ((), g') ∧ zScr g0 g' ∧ zBst m (fun p => zGp g0 (g0 34 0) m p ∧ ∃ w, w < zfc m ∧ p = zRw m u w) (zCp g0 (g0 34 0) m) (g' 222 32) (g' 222 33) (g' 237) := by
  have hl : (zsg u 0 m).length = m := zsg_len m 0
  have hw : ∀ z, z ∈ zsg u 0 m → z < 10 ∧ nI z < g0 4 0 := fun z hz => by
    obtain ⟨k, k1, k2, k3⟩ := zsg_mem _ _ _ hz
    obtain ⟨u1, u2, -⟩ := hu k (by omega)
    rw [k3]
    exact ⟨u1, u2⟩
  have z720 := zfc_720 m (by omega)
  intro d
  induction d with
  | zero =>
    intro q v g h1 h2 s B
    obtain ⟨q, rfl⟩ : ∃ z, q = z + 1 := ⟨q - 1, by omega⟩
    obtain rfl : v = zfc m := by omega
    rw [f202_12, zScr_222 s (by omega), h18, f203_eq hK hm, zbd_s, if_pos (nI_le (by omega) (by omega))]
    exact ⟨g, rfl, s, B⟩
  | succ d ih =>
    intro q v g h1 h2 s B
    obtain ⟨q, rfl⟩ : ∃ z, q = z + 1 := ⟨q - 1, by omega⟩
    have hv : v < zfc m := by omega
    have e18 : g 222 18 = nI m := by rw [zScr_222 s (by omega)]; exact h18
    obtain ⟨g1, a1, a2, a3, a4, a5⟩ := f204_sp (K := K) (v := v) (u := u) (g := g) hK hm hv e18 (fun i hi => by rw [zScr_c s (c := 232) (by omega)]; exact (hu i hi).2.2)
    generalize hrow : zRw m u v = row at a3
    have pm : List.Perm row (zsg u 0 m) := by rw [← hrow]; exact zOrd_val hm hv
    have hrl : row.length = m := by rw [pm.length_eq, hl]
    have Wd := zUl_w (g0 := g0) hl hw pm
    have s1 : zScr g0 g1 := zScr_hi s (fun c c1 c2 => a4 c (by omega) c1) (fun i hi => a5 i (by omega))
    have T1 : zTr m (zUl row) g1 := ⟨by omega, a2, fun i hi => a3 i hi⟩
    obtain ⟨g2, b1, b2, b3⟩ := f185_sp hK I s1 Wd T1
    have S2 : ∀ r, (zGp g0 (g0 34 0) m r ∧ ∃ w, w < v + 1 ∧ r = zRw m u w) → (zGp g0 (g0 34 0) m r ∧ ∃ w, w < v ∧ r = zRw m u w) ∨ r = row := fun r ⟨z1, w, w1, w2⟩ => by
      by_cases y : w = v
      · rw [y, hrow] at w2; exact Or.inr w2
      · exact Or.inl ⟨z1, w, by omega, w2⟩
    rw [f202_12, e18, f203_eq hK hm, zbd_s, if_neg (nI_ge hv (by omega)), a1, zbd_s, b1, zbd_s]
    by_cases hg : zGp g0 (g0 34 0) m row
    · have hS : ∀ r, (zGp g0 (g0 34 0) m r ∧ ∃ w, w < v + 1 ∧ r = zRw m u w) ↔ (zGp g0 (g0 34 0) m r ∧ ∃ w, w < v ∧ r = zRw m u w) ∨ r = row := fun r => ⟨S2 r, fun z => by
        rcases z with ⟨z1, w, w1, w2⟩ | z
        · exact ⟨z1, w, by omega, w2⟩
        · rw [z]; exact ⟨hg, v, by omega, hrow.symm⟩⟩
      have T2 : zTr m (zUl row) g2 := ⟨by omega, by rw [b3 222 (by decide)]; exact a2, fun i hi => by rw [b3 235 (by decide)]; exact a3 i hi⟩
      obtain ⟨g3, d1, d2, d3⟩ := f205_sp hK I b2 Wd T2
      have e32 : g3 222 32 = g 222 32 := by rw [d3 222 (by decide), b3 222 (by decide), a5 32 (by decide)]
      have e33 : g3 222 33 = g 222 33 := by rw [d3 222 (by decide), b3 222 (by decide), a5 33 (by decide)]
      have e29 : g3 222 29 = nI m := by rw [d3 222 (by decide), b3 222 (by decide)]; exact a2
      have e237 : g3 237 = g 237 := by rw [d3 237 (by decide), b3 237 (by decide), a4 237 (by decide) (by decide)]
      have e235 : ∀ i, i < m → g3 235 i = nI (row.getD i 0) := fun i hi => by rw [d3 235 (by decide), b3 235 (by decide)]; exact a3 i hi
      rw [decide_eq_true hg, if_neg (show ¬ nI true.toNat = 0 by decide), d1, zbd_s, e32]
      have cle := fun p => zCp_le (g0 := g0) (x := g0 34 0) (m := m) (by omega) p
      have crow : zPr g0 0 (g0 34 0) m (zUl row) = zCp g0 (g0 34 0) m row := rfl
      rw [crow]
      generalize hcr : zCp g0 (g0 34 0) m row = cr
      have cr24 : cr ≤ 24 := by rw [← hcr]; exact cle row
      -- it is taken
      have take : (∀ p, (zGp g0 (g0 34 0) m p ∧ ∃ w, w < v ∧ p = zRw m u w) → g 222 32 = nI (zCp g0 (g0 34 0) m p) → (∀ i, i < m → g 237 i = nI (p.getD i 0)) → cr < zCp g0 (g0 34 0) m p ∨ (cr = zCp g0 (g0 34 0) m p ∧ zLe row p)) → ∃ g', f202_71 K (f202_12 K q) (nI v) (nI cr) g3 = some ((), g') ∧ zScr g0 g' ∧ zBst m (fun p => zGp g0 (g0 34 0) m p ∧ ∃ w, w < zfc m ∧ p = zRw m u w) (zCp g0 (g0 34 0) m) (g' 222 32) (g' 222 33) (g' 237) := by
        intro hp
        obtain ⟨g4, x1, x2, x3, x4, x5, x6⟩ := f202_71_sp (K := K) (m := m) (k := f202_12 K q) (x1 := nI v) (x2 := nI cr) (g := g3) hK (by omega) e29
        rw [x1, nI_1]
        refine ih q (v + 1) g4 (by omega) (by omega) (zScr_hi d2 (fun c c1 c2 => x5 c (by omega) c1) (fun i hi => x6 i (by omega) (by omega))) ?_
        refine zBst_up (c := row) cle B hS ?_ (Or.inl ⟨by rw [x2, hcr], fun i hi => by rw [x4 i hi]; exact e235 i hi, fun p p1 p2 p3 => by rw [hcr]; exact hp p p1 p2 p3⟩)
        rw [x3, e33, hcr]
        exact zmx_i
      -- it is not
      have keep : ¬ g 222 32 = -1 → (∀ p, (zGp g0 (g0 34 0) m p ∧ ∃ w, w < v ∧ p = zRw m u w) → g 222 32 = nI (zCp g0 (g0 34 0) m p) → (∀ i, i < m → g 237 i = nI (p.getD i 0)) → zCp g0 (g0 34 0) m p < cr ∨ (zCp g0 (g0 34 0) m p = cr ∧ zLe p row)) → ∀ g3', (∀ c, g3' c = g3 c) → ∃ g', f202_75 K (f202_12 K q) (nI v) (nI cr) g3' = some ((), g') ∧ zScr g0 g' ∧ zBst m (fun p => zGp g0 (g0 34 0) m p ∧ ∃ w, w < zfc m ∧ p = zRw m u w) (zCp g0 (g0 34 0) m) (g' 222 32) (g' 222 33) (g' 237) := by
        intro hn hp g3' hg3
        obtain rfl : g3' = g3 := funext hg3
        obtain ⟨g4, x1, x2, x3, x5, x6⟩ := f202_75_sp (K := K) (k := f202_12 K q) (x1 := nI v) (x2 := nI cr) (g := g3') hK
        rw [x1, nI_1]
        refine ih q (v + 1) g4 (by omega) (by omega) (zScr_hi d2 (fun c c1 c2 => x5 c c1) (fun i hi => x6 i (by omega) (by omega))) ?_
        refine zBst_up (c := row) cle B hS ?_ (Or.inr ⟨by rw [x2, e32], fun i hi => by rw [x5 237 (by decide), e237], hn, fun p p1 p2 p3 => by rw [hcr]; exact hp p p1 p2 p3⟩)
        rw [x3, e33, hcr]
        exact zmx_i
      by_cases t1 : g 222 32 = -1
      · rw [if_pos t1]
        exact take (fun p p1 p2 p3 => absurd (p2.symm.trans t1) (nI_nm1 (by have := cle p; omega)))
      rw [if_neg t1]
      by_cases t2 : nI cr < g 222 32
      · rw [if_pos t2]
        exact take (fun p p1 p2 p3 => Or.inl (Nat.lt_of_not_le fun z => by rw [p2] at t2; exact absurd t2 (nI_nlt z (by omega))))
      rw [if_neg t2]
      have le : ∀ p, g 222 32 = nI (zCp g0 (g0 34 0) m p) → zCp g0 (g0 34 0) m p ≤ cr := fun p p2 => Nat.le_of_not_lt fun z => t2 (by rw [p2]; exact nI_lt z (by have := cle p; omega))
      by_cases t3 : nI cr = g 222 32
      · rw [if_neg (show ¬ ¬ nI cr = g 222 32 from fun z => z t3)]
        rcases B with ⟨-, B1, -⟩ | ⟨p, p1, p2, p3, p4⟩
        · exact absurd B1 t1
        have B' : zBst m (fun p => zGp g0 (g0 34 0) m p ∧ ∃ w, w < v ∧ p = zRw m u w) (zCp g0 (g0 34 0) m) (g 222 32) (g 222 33) (g 237) := Or.inr ⟨p, p1, p2, p3, p4⟩
        have same : ∀ p', (zGp g0 (g0 34 0) m p' ∧ ∃ w, w < v ∧ p' = zRw m u w) → (∀ i, i < m → g 237 i = nI (p'.getD i 0)) → p' = p := fun p' q1 q3 => by
          obtain ⟨-, w, w1, w2⟩ := q1
          obtain ⟨-, w', w1', w2'⟩ := p1
          have pm1 : List.Perm p' (zsg u 0 m) := by rw [w2]; exact zOrd_val hm (by omega)
          have pm2 : List.Perm p (zsg u 0 m) := by rw [w2']; exact zOrd_val hm (by omega)
          rw [← zsg_of p' m (by rw [pm1.length_eq, hl]), ← zsg_of p m (by rw [pm2.length_eq, hl])]
          refine zsg_c m 0 (fun k k1 k2 => ?_)
          have n1 := zgd_9 hl (fun z hz => (hw z hz).1) pm1 (i := k) (by omega)
          have n2 := zgd_9 hl (fun z hz => (hw z hz).1) pm2 (i := k) (by omega)
          exact (nI_eq (by omega) (by omega)).mp ((q3 k (by omega)).symm.trans (p3 k (by omega)))
        have pmp : List.Perm p (zsg u 0 m) := by
          obtain ⟨-, w', w1', w2'⟩ := p1
          rw [w2']; exact zOrd_val hm (by omega)
        have F := f206_lp (K := K) (m := m) (b := fun i => p.getD i 0) (c := fun i => row.getD i 0) (g := g3) (by omega) e29 (fun i hi => ⟨zgd_9 hl (fun z hz => (hw z hz).1) pm hi, e235 i hi⟩) (fun i hi => ⟨zgd_9 hl (fun z hz => (hw z hz).1) pmp hi, by rw [e237]; exact p3 i hi⟩) m 0 K (by omega) (by omega)
        rw [zsg_of row m hrl, zsg_of p m (by rw [pmp.length_eq, hl])] at F
        have ceq : cr = zCp g0 (g0 34 0) m p := (nI_eq (by omega) (by have := cle p; omega)).mp (t3.trans p2)
        unfold f206
        rw [show f206_2 K K 0 g3 = _ from F, zbd_s]
        by_cases y : zwl row p = true
        · rw [if_pos y, if_neg (show ¬ (1 : Int32) = 0 by decide)]
          exact take (fun p' q1 q2 q3 => Or.inr ⟨by rw [same p' q1 q3]; exact ceq, by rw [same p' q1 q3]; exact Or.inr y⟩)
        · rw [if_neg y, if_pos (show (0 : Int32) = 0 from rfl)]
          refine keep t1 (fun p' q1 q2 q3 => Or.inr ⟨by rw [same p' q1 q3]; exact ceq.symm, ?_⟩) g3 (fun _ => rfl)
          rw [same p' q1 q3]
          rcases zwl_tri p row (by rw [pmp.length_eq, pm.length_eq]) with w | w | w
          · exact Or.inr w
          · exact Or.inl w
          · exact absurd w y
      · rw [if_pos t3]
        refine keep t1 (fun p p1 p2 p3 => Or.inl ?_) g3 (fun _ => rfl)
        have := le p p2
        by_cases y : zCp g0 (g0 34 0) m p = cr
        · rw [y] at p2; exact absurd p2.symm t3
        · omega
    · rw [decide_eq_false hg, if_pos (show nI false.toNat = 0 by decide)]
      unfold f202_149
      rw [nI_1]
      refine ih q (v + 1) g2 (by omega) (by omega) b2 ?_
      rw [b3 222 (by decide), b3 237 (by decide), a5 32 (by decide), a5 33 (by decide), a4 237 (by decide) (by decide)]
      refine zBst_cg B (fun r => ⟨fun ⟨z1, w, w1, w2⟩ => ⟨z1, w, by omega, w2⟩, fun z => ?_⟩)
      rcases S2 r z with y | y
      · exact y
      · rw [y] at z; exact absurd z.1 hg
theorem f202_sp {K m n : Nat} {g0 g : zS} {u : Nat → Nat} (hK : 1000 ≤ K) (hm : m ≤ 6) (I : zInv n g0) (hu : ∀ i, i < m → u i < 10 ∧ nI (u i) < g0 4 0 ∧ g0 232 i = nI (u i)) (h18 : g0 222 18 = nI m) (s : zScr g0 g) : ∃ g', f202 K g = some ((), g') ∧ zScr g0 g' ∧ zBst m (fun p => zGp g0 (g0 34 0) m p ∧ List.Perm p (zsg u 0 m)) (zCp g0 (g0 34 0) m) (g' 222 32) (g' 222 33) (g' 237) := by
  have z720 := zfc_720 m (by omega)
  obtain ⟨g', a1, a2, a3⟩ := f202_lp (K := K) (by omega) hm I hu h18 (zfc m) K 0 (zup (zup g 222 32 (-1)) 222 33 (-1)) (by omega) (by omega) (zScr_up (zScr_up s (by unfold zKeep; omega)) (by unfold zKeep; omega)) (Or.inl ⟨fun p ⟨_, w, w1, _⟩ => absurd w1 (Nat.not_lt_zero _), by rw [zup_k (by decide), zup_s], zup_s _ _ _ _⟩)
  refine ⟨g', a1, a2, zBst_cg a3 (fun r => ⟨fun ⟨z1, w, w1, w2⟩ => ⟨z1, by rw [w2]; exact zOrd_val hm w1⟩, fun ⟨z1, z2⟩ => ⟨z1, ?_⟩⟩)⟩
  obtain ⟨w, w1, w2⟩ := zOrd_sur hm z2
  exact ⟨w, w1, w2⟩
-- ===== cheapest, loophole =====
theorem f100_eq {K m : Nat} {g0 g : zS} (hK : 20 ≤ K) (s : zScr g0 g) (hm : m ≤ 8) (h : g0 180 1 = nI m) : f100 K g = some (if zhc (g0 182) m = 0 ∧ m ≤ 6 then 1 else 0, g) := by
  have hz := @zhc_le (g0 182) m
  unfold f100
  rw [f77_eq hK (zLn_180 s hm h), zbd_s]
  by_cases q : zhc (g0 182) m = 0
  · rw [if_neg (show ¬ ¬ nI (zhc (g0 182) m) = 0 from fun z => z (by rw [q]; rfl)), zScr_c s (c := 180) (by omega), h]
    by_cases q2 : m ≤ 6
    · rw [if_neg (show ¬ (6 : Int32) < nI m from nI_nlt (a := 6) q2 (by omega)), if_pos ⟨q, q2⟩]
    · rw [if_pos (show (6 : Int32) < nI m from nI_lt (a := 6) (by omega) (by omega)), if_neg (fun z => q2 z.2)]
  · rw [if_pos (show ¬ nI (zhc (g0 182) m) = 0 from fun z => q ((nI_eq (b := 0) (by omega) (by omega)).mp z)), if_neg (fun z => q z.1)]
theorem f201_sp {K m : Nat} {g0 g : zS} (hK : 20 ≤ K) (s : zScr g0 g) (hm : m ≤ 8) (h1 : g0 222 18 = nI m) (h2 : ∀ i, i < m → g0 182 i = g0 232 i) : ∃ g', f201 K g = some (if zhc (g0 182) m = 0 ∧ m ≤ 6 then 1 else 0, g') ∧ zScr g0 g' := by
  obtain ⟨g', a1, a2, a3, a4, a5⟩ := f173_sp hK s hm h1 h2
  refine ⟨g', ?_, a2⟩
  unfold f201
  rw [a1, zbd_s, zScr_222 a2 (k := 18) (by omega), h1]
  by_cases q2 : m ≤ 6
  · rw [if_neg (show ¬ (6 : Int32) < nI m from nI_nlt (a := 6) q2 (by omega)), f186_eq hK a3, zbd_s]
    by_cases q : zhc (g0 182) m = 0
    · rw [zah_f.mpr (zhc_0.mp q), if_neg (show ¬ ¬ nI false.toNat = 0 by decide), if_pos ⟨q, q2⟩]
    · cases hb : zah (g0 182) (-1) m with
      | false => exact absurd (zhc_0.mpr (zah_f.mp hb)) q
      | true => rw [if_pos (show ¬ nI true.toNat = 0 by decide), if_neg (fun z => q z.1)]
  · rw [if_pos (show (6 : Int32) < nI m from nI_lt (a := 6) (by omega) (by omega)), if_neg (fun z => q2 z.2)]
/-- both weigh the orders to the same end -/
theorem zch_sp {K n m : Nat} {g0 : zS} (hK : 1000 ≤ K) (I : zInv n g0) (hm : m ≤ 6) (l1 : g0 180 1 = nI m) (l2 : g0 222 18 = nI m) (Wd : zWds g0 m (g0 182)) (l3 : ∀ i, i < m → g0 182 i = g0 232 i) (h0 : zhc (g0 182) m = 0) : ∃ (ls ms : Int32) (b : Nat → Int32), (∀ g, zScr g0 g → ∃ g1 g2, f59 K 4 (g 34 0) g = some ((), g1) ∧ f101 K 180 g1 = some ((), g2) ∧ zScr g0 g2 ∧ g2 213 3 = ls ∧ g2 213 4 = ms ∧ (¬ ls = -1 → g2 217 1 = nI m ∧ ∀ i, i < m → g2 219 i = b i)) ∧ ∀ g, zScr g0 g → ∃ g2, f202 K g = some ((), g2) ∧ zScr g0 g2 ∧ g2 222 32 = ls ∧ g2 222 33 = ms ∧ (¬ ls = -1 → ∀ i, i < m → g2 237 i = b i) := by
  have hu : ∀ i, i < m → (g0 182 i).toNatClampNeg < 10 ∧ nI (g0 182 i).toNatClampNeg < g0 4 0 ∧ g0 182 i = nI (g0 182 i).toNatClampNeg := fun i hi => by
    rcases Wd i hi with z | ⟨w, w1, w2, w3⟩
    · exact absurd z (zhc_0.mp h0 i hi)
    · rw [w2, nI_clamp (by omega)]
      exact ⟨w1, w3, rfl⟩
  obtain ⟨u, hue⟩ : ∃ u : Nat → Nat, u = fun i => (g0 182 i).toNatClampNeg := ⟨_, rfl⟩
  have hu1 : ∀ i, i < m → u i < 10 ∧ nI (u i) < g0 4 0 ∧ g0 182 i = nI (u i) := fun i hi => by rw [hue]; exact hu i hi
  have hu2 : ∀ i, i < m → u i < 10 ∧ nI (u i) < g0 4 0 ∧ g0 232 i = nI (u i) := fun i hi => by rw [← l3 i hi]; exact hu1 i hi
  have cls : ∀ g, zScr g0 g → ∃ g1 g2, f59 K 4 (g 34 0) g = some ((), g1) ∧ f101 K 180 g1 = some ((), g2) ∧ zScr g0 g2 ∧ zBst m (fun p => zGp g0 (g0 34 0) m p ∧ List.Perm p (zsg u 0 m)) (zCp g0 (g0 34 0) m) (g2 213 3) (g2 213 4) (g2 219) ∧ (¬ g2 213 3 = -1 → g2 217 1 = nI m) := fun g s => by
    obtain ⟨g1, a1, a2, -, a4⟩ := f59_sp (K := K) (x := g0 34 0) (by omega) I.2.1 s
    obtain ⟨g2, b1, b2, b3, b4⟩ := f101_sp (K := K) (u := u) hK hm I.2.1 hu1 l1 a2 a4
    refine ⟨g1, g2, ?_, b1, b2, b3, b4⟩
    rw [show g 34 0 = g0 34 0 from congrFun (zScr_c s (c := 34) (by omega)) 0]
    exact a1
  obtain ⟨-, G, -, -, -, GB, -⟩ := cls g0 zScr_0
  refine ⟨G 213 3, G 213 4, G 219, fun g s => ?_, fun g s => ?_⟩
  · obtain ⟨g1, g2, a1, a2, a3, a4, a5⟩ := cls g s
    obtain ⟨e1, e2, e3⟩ := zBst_un a4 GB
    exact ⟨g1, g2, a1, a2, a3, e1, e2, fun z => ⟨a5 (by rw [e1]; exact z), e3 (by rw [e1]; exact z)⟩⟩
  · obtain ⟨g2, a1, a2, a3⟩ := f202_sp (K := K) (u := u) hK hm I hu2 l2 s
    obtain ⟨e1, e2, e3⟩ := zBst_un a3 GB
    exact ⟨g2, a1, a2, e1, e2, fun z => e3 (by rw [e1]; exact z)⟩
theorem zpos_of {x : Int32} (h : -1 ≤ x) (h2 : ¬ x = -1) : ¬ x < 0 := by
  rw [Int32.lt_iff_toInt_lt]
  rw [Int32.le_iff_toInt_le] at h
  intro z
  apply h2
  apply Int32.toInt_inj.mp
  have a : (-1 : Int32).toInt = -1 := by decide
  have b : (0 : Int32).toInt = 0 := by decide
  rw [a] at h ⊢
  rw [b] at z
  omega
theorem zp_cheapest {K : Nat} (hK : 1000 ≤ K) (n : Nat) (x : Int32) : zPair (zInv n) (zInv (n + 1)) (f99 K x) (f200 K x) := by
  refine zPair_scr fun g I => ?_
  obtain ⟨m, m8, l1, l2, Wd, l3⟩ := zli I
  by_cases n1 : ¬ -1 ≤ x
  · have h1 := n1
    refine ⟨-3, zR_eq (g := g) ?_ ⟨rfl, zScr_0⟩, fun g1 s1 => zR_eq (g := g1) ?_ ⟨rfl, s1⟩⟩
    · unfold f99
      rw [if_neg h1]
    · unfold f200
      rw [if_neg h1]
  have h1 : -1 ≤ x := Classical.not_not.mp n1
  by_cases n0 : ¬ (zhc (g 182) m = 0 ∧ m ≤ 6)
  · have h0 := n0
    refine ⟨-4, zR_eq (g := g) ?_ ⟨rfl, zScr_0⟩, fun g1 s1 => ?_⟩
    · unfold f99
      rw [if_pos h1, f100_eq (by omega) zScr_0 m8 l1, zbd_s, if_neg h0, if_neg (show ¬ ¬ (0 : Int32) = 0 from fun z => z rfl)]
    · obtain ⟨g2, b1, b2⟩ := f201_sp (K := K) (by omega) s1 m8 l2 l3
      refine zR_eq (g := g2) ?_ ⟨rfl, b2⟩
      unfold f200
      rw [if_pos h1, b1, zbd_s, if_neg h0, if_neg (show ¬ ¬ (0 : Int32) = 0 from fun z => z rfl)]
  have h0 : zhc (g 182) m = 0 ∧ m ≤ 6 := Classical.not_not.mp n0
  obtain ⟨ls, ms, b, A, B⟩ := zch_sp hK I h0.2 l1 l2 Wd l3 h0.1
  obtain ⟨g1, g2, a1, a2, a3, a4, a5, a6⟩ := A g zScr_0
  by_cases h2 : ls = -1
  · refine ⟨-1, zR_eq (g := g2) ?_ ⟨rfl, a3⟩, fun g3 s3 => ?_⟩
    · unfold f99
      rw [if_pos h1, f100_eq (by omega) zScr_0 m8 l1, zbd_s, if_pos h0, if_pos (show ¬ (1 : Int32) = 0 by decide), a1, zbd_s, a2, zbd_s, a4, if_pos h2, h2]
    · obtain ⟨g4, b1, b2⟩ := f201_sp (K := K) (by omega) s3 m8 l2 l3
      obtain ⟨g5, c1, c2, c3, c4, c5⟩ := B g4 b2
      refine zR_eq (g := g5) ?_ ⟨rfl, c2⟩
      unfold f200
      rw [if_pos h1, b1, zbd_s, if_pos h0, if_pos (show ¬ (1 : Int32) = 0 by decide), c1, zbd_s, c3, if_pos h2, h2]
  obtain ⟨a7, a8⟩ := a6 h2
  by_cases h3 : x = -1
  · refine ⟨ls, zR_eq (g := g2) ?_ ⟨rfl, a3⟩, fun g3 s3 => ?_⟩
    · unfold f99
      rw [if_pos h1, f100_eq (by omega) zScr_0 m8 l1, zbd_s, if_pos h0, if_pos (show ¬ (1 : Int32) = 0 by decide), a1, zbd_s, a2, zbd_s, a4, if_neg h2, if_neg (show ¬ ¬ x = -1 from fun z => z h3)]
    · obtain ⟨g4, b1, b2⟩ := f201_sp (K := K) (by omega) s3 m8 l2 l3
      obtain ⟨g5, c1, c2, c3, c4, c5⟩ := B g4 b2
      refine zR_eq (g := g5) ?_ ⟨rfl, c2⟩
      unfold f200
      rw [if_pos h1, b1, zbd_s, if_pos h0, if_pos (show ¬ (1 : Int32) = 0 by decide), c1, zbd_s, c3, if_neg h2, if_neg (show ¬ ¬ x = -1 from fun z => z h3)]
  have hx := zpos_of h1 h3
  by_cases h4 : nI m ≤ x
  · refine ⟨-1, zR_eq (g := g2) ?_ ⟨rfl, a3⟩, fun g3 s3 => ?_⟩
    · unfold f99
      rw [if_pos h1, f100_eq (by omega) zScr_0 m8 l1, zbd_s, if_pos h0, if_pos (show ¬ (1 : Int32) = 0 by decide), a1, zbd_s, a2, zbd_s, a4, if_neg h2, if_pos h3]
      unfold f62
      rw [if_neg hx, a7, if_pos h4, zbd_s]
    · obtain ⟨g4, b1, b2⟩ := f201_sp (K := K) (by omega) s3 m8 l2 l3
      obtain ⟨g5, c1, c2, c3, c4, c5⟩ := B g4 b2
      refine zR_eq (g := g5) ?_ ⟨rfl, c2⟩
      unfold f200
      rw [if_pos h1, b1, zbd_s, if_pos h0, if_pos (show ¬ (1 : Int32) = 0 by decide), c1, zbd_s, c3, if_neg h2, if_pos h3, zScr_222 c2 (k := 18) (by omega), l2, if_pos h4]
  obtain ⟨j, j1, rfl⟩ : ∃ j : Nat, j ≤ m ∧ x = nI j := zwi_of (by omega) (by
    unfold zwi
    rw [if_neg hx, if_neg (fun z => h4 (Int32.le_of_lt z))]
    decide)
  have hj : j < m := Nat.lt_of_not_le fun z => h4 (nI_le z (by omega))
  refine ⟨b j, zR_eq (g := g2) ?_ ⟨rfl, a3⟩, fun g3 s3 => ?_⟩
  · unfold f99
    rw [if_pos h1, f100_eq (by omega) zScr_0 m8 l1, zbd_s, if_pos h0, if_pos (show ¬ (1 : Int32) = 0 by decide), a1, zbd_s, a2, zbd_s, a4, if_neg h2, if_pos h3]
    unfold f62
    have zl : zlen (217 + 1 + 1) = 8 := by decide +kernel
    rw [if_neg hx, a7, if_neg h4, f21_eq (by rw [zl]; omega) (by rw [zl]; decide), zbd_s, zbd_s, show g2 (217 + 1 + 1) j = b j from a8 j hj]
  · obtain ⟨g4, b1, b2⟩ := f201_sp (K := K) (by omega) s3 m8 l2 l3
    obtain ⟨g5, c1, c2, c3, c4, c5⟩ := B g4 b2
    refine zR_eq (g := g5) ?_ ⟨rfl, c2⟩
    unfold f200
    rw [if_pos h1, b1, zbd_s, if_pos h0, if_pos (show ¬ (1 : Int32) = 0 by decide), c1, zbd_s, c3, if_neg h2, if_pos h3, zScr_222 c2 (k := 18) (by omega), l2, if_neg h4, if_pos (zin_i (show j < 8 by omega) (by decide)), nI_clamp (show j < 2 ^ 31 by omega), c5 h2 j hj]
theorem zp_loophole {K : Nat} (hK : 1000 ≤ K) (n : Nat) : zPair (zInv n) (zInv (n + 1)) (f108 K) (f207 K) := by
  refine zPair_scr fun g I => ?_
  obtain ⟨m, m8, l1, l2, Wd, l3⟩ := zli I
  by_cases n0 : ¬ (zhc (g 182) m = 0 ∧ m ≤ 6)
  · have h0 := n0
    refine ⟨-4, zR_eq (g := g) ?_ ⟨rfl, zScr_0⟩, fun g1 s1 => ?_⟩
    · unfold f108
      rw [f100_eq (by omega) zScr_0 m8 l1, zbd_s, if_neg h0, if_neg (show ¬ ¬ (0 : Int32) = 0 from fun z => z rfl)]
    · obtain ⟨g2, b1, b2⟩ := f201_sp (K := K) (by omega) s1 m8 l2 l3
      refine zR_eq (g := g2) ?_ ⟨rfl, b2⟩
      unfold f207
      rw [b1, zbd_s, if_neg h0, if_neg (show ¬ ¬ (0 : Int32) = 0 from fun z => z rfl)]
  have h0 : zhc (g 182) m = 0 ∧ m ≤ 6 := Classical.not_not.mp n0
  obtain ⟨ls, ms, b, A, B⟩ := zch_sp hK I h0.2 l1 l2 Wd l3 h0.1
  obtain ⟨g1, g2, a1, a2, a3, a4, a5, a6⟩ := A g zScr_0
  refine ⟨if ¬ ls = -1 then ms - ls else -1, zR_eq (g := g2) ?_ ⟨rfl, a3⟩, fun g3 s3 => ?_⟩
  · unfold f108
    rw [f100_eq (by omega) zScr_0 m8 l1, zbd_s, if_pos h0, if_pos (show ¬ (1 : Int32) = 0 by decide), a1, zbd_s, a2, zbd_s, a4, a5]
    by_cases h2 : ls = -1
    · rw [if_neg (fun z => z h2), if_neg (fun z => z h2)]
    · rw [if_pos h2, if_pos h2]
  · obtain ⟨g4, b1, b2⟩ := f201_sp (K := K) (by omega) s3 m8 l2 l3
    obtain ⟨g5, c1, c2, c3, c4, c5⟩ := B g4 b2
    refine zR_eq (g := g5) ?_ ⟨rfl, c2⟩
    unfold f207
    rw [b1, zbd_s, if_pos h0, if_pos (show ¬ (1 : Int32) = 0 by decide), c1, zbd_s, c3, c4]
    by_cases h2 : ls = -1
    · rw [if_neg (fun z => z h2), if_neg (fun z => z h2)]
    · rw [if_pos h2, if_pos h2]
