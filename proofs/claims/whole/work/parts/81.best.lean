-- ===== the best of a set of rows =====
def zUl (p : List Nat) : Nat → Int32 := fun i => nI (p.getD i 0)
abbrev zGp (g0 : zS) (x : Int32) (m : Nat) (p : List Nat) : Prop := zGd (zQ g0 x m (zUl p)) m
def zCp (g0 : zS) (x : Int32) (m : Nat) (p : List Nat) : Nat := zPr g0 0 x m (zUl p)
theorem zLe_tr {p q r : List Nat} (h1 : zLe p q) (h2 : zLe q r) : zLe p r := by
  rcases h1 with h1 | h1
  · rw [h1]; exact h2
  · rcases h2 with h2 | h2
    · rw [← h2]; exact Or.inr h1
    · exact Or.inr (zwl_tr _ _ _ h1 h2)
theorem zLe_as {p q : List Nat} (h1 : zLe p q) (h2 : zLe q p) : p = q := by
  rcases h1 with h1 | h1
  · exact h1
  · rcases h2 with h2 | h2
    · exact h2.symm
    · exact absurd (zwl_tr _ _ _ h1 h2) (zwl_irr _)
def zBst (m : Nat) (S : List Nat → Prop) (C : List Nat → Nat) (ls ms : Int32) (b : Nat → Int32) : Prop := ((∀ p, ¬ S p) ∧ ls = -1 ∧ ms = -1) ∨ ∃ p, S p ∧ ls = nI (C p) ∧ (∀ i, i < m → b i = nI (p.getD i 0)) ∧ (∀ r, S r → C p ≤ C r ∧ (C r = C p → zLe p r)) ∧ ∃ r, S r ∧ ms = nI (C r) ∧ ∀ s, S s → C s ≤ C r
theorem zBst_cg {m : Nat} {S S' : List Nat → Prop} {C : List Nat → Nat} {ls ms : Int32} {b : Nat → Int32} (h : zBst m S C ls ms b) (e : ∀ r, S r ↔ S' r) : zBst m S' C ls ms b := by
  have : S = S' := funext fun r => propext (e r)
  rw [← this]
  exact h
theorem zBst_b {m : Nat} {S : List Nat → Prop} {C : List Nat → Nat} {ls ms : Int32} {b b' : Nat → Int32} (h : zBst m S C ls ms b) (e : ∀ i, i < m → b' i = b i) : zBst m S C ls ms b' := by
  rcases h with h | ⟨p, h1, h2, h3, h4⟩
  · exact Or.inl h
  · exact Or.inr ⟨p, h1, h2, fun i hi => (e i hi).trans (h3 i hi), h4⟩
theorem nI_m1l : ∀ v, v < 25 → (-1 : Int32) < nI v := by decide +kernel
theorem nI_m1lt {v : Nat} (h : v ≤ 24) : (-1 : Int32) < nI v := nI_m1l v (by omega)
theorem zBst_up {m : Nat} {S S' : List Nat → Prop} {C : List Nat → Nat} {ls ms ls' ms' : Int32} {b b' : Nat → Int32} {c : List Nat} (hC : ∀ p, C p ≤ 24) (h : zBst m S C ls ms b) (hS : ∀ r, S' r ↔ S r ∨ r = c) (hm : ms' = if ms < nI (C c) then nI (C c) else ms) (hb : (ls' = nI (C c) ∧ (∀ i, i < m → b' i = nI (c.getD i 0)) ∧ ∀ p, S p → ls = nI (C p) → (∀ i, i < m → b i = nI (p.getD i 0)) → C c < C p ∨ (C c = C p ∧ zLe c p)) ∨ (ls' = ls ∧ (∀ i, i < m → b' i = b i) ∧ ¬ ls = -1 ∧ ∀ p, S p → ls = nI (C p) → (∀ i, i < m → b i = nI (p.getD i 0)) → C p < C c ∨ (C p = C c ∧ zLe p c))) : zBst m S' C ls' ms' b' := by
  have hc := hC c
  rcases h with ⟨h1, h2, h3⟩ | ⟨p, h1, h2, h3, h4, r, h5, h6, h7⟩
  · have only : ∀ r, S' r → r = c := fun r hr => by
      rcases (hS r).mp hr with z | z
      · exact absurd z (h1 r)
      · exact z
    rcases hb with ⟨b1, b2, -⟩ | ⟨-, -, b3, -⟩
    · refine Or.inr ⟨c, (hS c).mpr (Or.inr rfl), b1, b2, fun r hr => by rw [only r hr]; exact ⟨Nat.le_refl _, fun _ => Or.inl rfl⟩, c, (hS c).mpr (Or.inr rfl), ?_, fun s hs => by rw [only s hs]; exact Nat.le_refl _⟩
      rw [hm, h3, if_pos (nI_m1lt hc)]
    · exact absurd h2 b3
  · have hr := hC r
    have hp := hC p
    have top : ∃ r, S' r ∧ ms' = nI (C r) ∧ ∀ s, S' s → C s ≤ C r := by
      rw [hm, h6]
      by_cases q : C r < C c
      · rw [if_pos (nI_lt q (by omega))]
        refine ⟨c, (hS c).mpr (Or.inr rfl), rfl, fun s hs => ?_⟩
        rcases (hS s).mp hs with z | z
        · have := h7 s z; omega
        · rw [z]; exact Nat.le_refl _
      · rw [if_neg (nI_nlt (by omega) (by omega))]
        refine ⟨r, (hS r).mpr (Or.inl h5), rfl, fun s hs => ?_⟩
        rcases (hS s).mp hs with z | z
        · exact h7 s z
        · rw [z]; omega
    rcases hb with ⟨b1, b2, b3⟩ | ⟨b1, b2, -, b3⟩
    · refine Or.inr ⟨c, (hS c).mpr (Or.inr rfl), b1, b2, fun s hs => ?_, top⟩
      rcases (hS s).mp hs with z | z
      · obtain ⟨e1, e2⟩ := h4 s z
        rcases b3 p h1 h2 h3 with w | ⟨w, w2⟩
        · exact ⟨by omega, fun y => by omega⟩
        · exact ⟨by omega, fun y => zLe_tr w2 (e2 (by omega))⟩
      · rw [z]; exact ⟨Nat.le_refl _, fun _ => Or.inl rfl⟩
    · refine Or.inr ⟨p, (hS p).mpr (Or.inl h1), b1.trans h2, fun i hi => (b2 i hi).trans (h3 i hi), fun s hs => ?_, top⟩
      rcases (hS s).mp hs with z | z
      · exact h4 s z
      · rw [z]
        rcases b3 p h1 h2 h3 with w | ⟨w, w2⟩
        · exact ⟨by omega, fun y => by omega⟩
        · exact ⟨by omega, fun y => w2⟩
theorem zBst_un {m : Nat} {S : List Nat → Prop} {C : List Nat → Nat} {ls ms ls' ms' : Int32} {b b' : Nat → Int32} (h : zBst m S C ls ms b) (h' : zBst m S C ls' ms' b') : ls = ls' ∧ ms = ms' ∧ (¬ ls = -1 → ∀ i, i < m → b i = b' i) := by
  rcases h with ⟨h1, h2, h3⟩ | ⟨p, h1, h2, h3, h4, r, h5, h6, h7⟩
  · rcases h' with ⟨k1, k2, k3⟩ | ⟨p', k1, -⟩
    · exact ⟨h2.trans k2.symm, h3.trans k3.symm, fun z => absurd h2 z⟩
    · exact absurd k1 (h1 p')
  · rcases h' with ⟨k1, -⟩ | ⟨p', k1, k2, k3, k4, r', k5, k6, k7⟩
    · exact absurd h1 (k1 p)
    · obtain ⟨x1, x2⟩ := h4 p' k1
      obtain ⟨y1, y2⟩ := k4 p h1
      have e : p = p' := zLe_as (x2 (by omega)) (y2 (by omega))
      have e2 : C r = C r' := Nat.le_antisymm (k7 r h5) (h7 r' k5)
      exact ⟨by rw [h2, k2, e], by rw [h6, k6, e2], fun _ i hi => by rw [h3 i hi, k3 i hi, e]⟩
-- ===== the class weighs the orders =====
theorem f105_sp {K m v : Nat} {g : zS} (hK : 20 ≤ K) (h : g 214 1 = nI m) : ∃ g', f105 K (nI v) g = some ((), g') ∧ g' 213 4 = (if g 213 4 < nI v then nI v else g 213 4) ∧ ((g 213 3 = -1 ∨ nI v < g 213 3) → g' 213 3 = nI v ∧ g' 217 1 = nI m ∧ ∀ k, k < 8 → g' 219 k = g 216 k) ∧ (¬ (g 213 3 = -1 ∨ nI v < g 213 3) → g' 213 3 = g 213 3 ∧ g' 217 = g 217 ∧ g' 219 = g 219) ∧ ∀ c, c ≠ 213 → c ≠ 217 → c ≠ 219 → g' c = g c := by
  unfold f105
  generalize (if g 213 4 < nI v then nI v else g 213 4) = X
  have take : ∃ g', f105_28 K (nI v) (zup g 213 4 X) = some ((), g') ∧ g' 213 4 = X ∧ (g' 213 3 = nI v ∧ g' 217 1 = nI m ∧ ∀ k, k < 8 → g' 219 k = g 216 k) ∧ ∀ c, c ≠ 213 → c ≠ 217 → c ≠ 219 → g' c = g c := by
    obtain ⟨g', a1, a2, a3, a4, a5⟩ := f102_sp (K := K) (o0 := 217) (o1 := 214) (m := m) (g := zup (zup g 213 4 X) 213 3 (nI v)) hK (by decide +kernel) (by decide +kernel) (by decide) (by decide) (by rw [zup_c (by decide), zup_c (by decide)]; exact h)
    unfold f105_28
    rw [a1, zbd_s]
    refine ⟨g', rfl, by rw [a2 213 (by decide) (by decide), zup_k (by decide), zup_s], ⟨by rw [a2 213 (by decide) (by decide), zup_s], a4, fun k hk => ?_⟩, fun c c1 c2 c3 => by rw [a2 c (by omega) (by omega), zup_c c1, zup_c c1]⟩
    have := a5 k hk
    rw [zup_c (by decide), zup_c (by decide)] at this
    exact this
  rw [zup_k (by decide)]
  by_cases q : g 213 3 = -1
  · obtain ⟨g', a1, a2, a3, a4⟩ := take
    rw [if_pos q, a1]
    exact ⟨g', rfl, a2, fun _ => a3, fun z => absurd (Or.inl q) z, a4⟩
  · rw [if_neg q]
    by_cases q2 : nI v < g 213 3
    · obtain ⟨g', a1, a2, a3, a4⟩ := take
      rw [if_neg (fun z => znle.mp z q2), a1]
      exact ⟨g', rfl, a2, fun _ => a3, fun z => absurd (Or.inr q2) z, a4⟩
    · rw [if_pos (znle.mpr q2)]
      exact ⟨_, rfl, zup_s _ _ _ _, fun z => (by rcases z with z | z; exact absurd z q; exact absurd z q2), fun _ => ⟨zup_k (by decide), zup_c (by decide), zup_c (by decide)⟩, fun c c1 c2 c3 => zup_c c1⟩
theorem zUl_w {g0 : zS} {m : Nat} {l p : List Nat} (hl : l.length = m) (hw : ∀ z, z ∈ l → z < 10 ∧ nI z < g0 4 0) (hp : List.Perm p l) : zWds g0 m (zUl p) := by
  intro i hi
  have h1 : p.getD i 0 ∈ p := zgd_mem p i (by rw [hp.length_eq, hl]; exact hi)
  obtain ⟨h2, h3⟩ := hw _ (hp.mem_iff.mp h1)
  exact Or.inr ⟨_, h2, rfl, h3⟩
theorem zKin_fr {g0 g g' : zS} {x : Int32} (h : zKin g0 x g) (e : g' 183 = g 183) (e2 : g' 185 = g 185) : zKin g0 x g' := by
  unfold zKin
  rw [e, e2]
  exact h
theorem zScr_fr {g0 g g' : zS} (s : zScr g0 g) (h : ∀ c, c < 213 ∨ 219 < c → g' c = g c) : zScr g0 g' := by
  intro c k hk
  rw [h c (by unfold zKeep at hk; omega)]
  exact s c k hk
theorem zCp_le {g0 : zS} {x : Int32} {m : Nat} (hm : m ≤ 8) (p : List Nat) : zCp g0 x m p ≤ 24 := zPr_le hm
theorem f101_lp {K m : Nat} {g0 : zS} {x : Int32} {u : Nat → Nat} {l : List Nat} (hK : 20 ≤ K) (hm : m ≤ 6) (I : zIto g0) (hlu : l = zsg u 0 m) (hw : ∀ z, z ∈ l → z < 10 ∧ nI z < g0 4 0) : ∀ d q k (cf : Nat → Nat) (Ps : List (List Nat)) (g : zS), k + d = 720 → d < q → zScr g0 g → zKin g0 x g → g 214 1 = nI m → zHs m cf g → List.Perm (zsg cf 0 m) l → Ps.Nodup → Ps.length = k → (∀ p, p ∈ Ps → List.Perm p l ∧ zwl p (zsg cf 0 m) = true) → zBst m (fun p => zGp g0 x m p ∧ List.Perm p l ∧ zwl p (zsg cf 0 m) = true) (zCp g0 x m) (g 213 3) (g 213 4) (g 219) → (¬ g 213 3 = -1 → g 217 1 = nI m) → ∃ g', f101_30 K q 1 (nI k) g = some ((), g') ∧ zScr g0 g' ∧ zBst m (fun p => zGp g0 x m p ∧ List.Perm p l) (zCp g0 x m) (g' 213 3) (g' 213 4) (g' 219) ∧ (¬ g' 213 3 = -1 → g' 217 1 = nI m) := by
  have hl : l.length = m := by rw [hlu, zsg_len]
  have cnt : ∀ (Qs : List (List Nat)), Qs.Nodup → (∀ p, p ∈ Qs → List.Perm p l) → Qs.length ≤ 720 := fun Qs n h => by
    have := znd_le Qs ((List.range (zfc m)).map (zRw m u)) n (fun p hp => by
      have h2 := h p hp
      rw [hlu] at h2
      obtain ⟨v, v1, v2⟩ := zOrd_sur hm h2
      exact List.mem_map.mpr ⟨v, List.mem_range.mpr v1, v2.symm⟩)
    rw [List.length_map, List.length_range] at this
    have := (zfc_720 m (by omega)).1
    omega
  intro d
  induction d with
  | zero =>
    intro q k cf Ps g h1 h2 s kin h214 H pm nd ln hPs B h217
    have := cnt (zsg cf 0 m :: Ps) (List.nodup_cons.mpr ⟨fun z => zwl_irr _ (hPs _ z).2, nd⟩) (fun p hp => by
      rcases List.mem_cons.mp hp with z | z
      · rw [z]; exact pm
      · exact (hPs p z).1)
    rw [List.length_cons] at this
    omega
  | succ d ih =>
    intro q k cf Ps g h1 h2 s kin h214 H pm nd ln hPs B h217
    obtain ⟨q, rfl⟩ : ∃ z, q = z + 1 := ⟨q - 1, by omega⟩
    generalize hrow : zsg cf 0 m = row at pm hPs B
    have hrl : row.length = m := by rw [← hrow, zsg_len]
    have ur : ∀ i, i < m → zUl row i = nI (cf i) := fun i hi => by
      unfold zUl
      rw [← hrow, zsg_get m 0 i hi, Nat.zero_add]
    have L : zLn 214 m (zUl row) g := ⟨by decide +kernel, by omega, h214, fun i hi => by rw [ur i hi]; exact (H i hi).2⟩
    have Wd := zUl_w (g0 := g0) hl hw pm
    -- to the next one
    have go : ∀ g1, zScr g0 g1 → zKin g0 x g1 → g1 214 1 = nI m → zHs m cf g1 → zBst m (fun p => zGp g0 x m p ∧ List.Perm p l ∧ (zwl p row = true ∨ p = row)) (zCp g0 x m) (g1 213 3) (g1 213 4) (g1 219) → (¬ g1 213 3 = -1 → g1 217 1 = nI m) → ∃ g', f101_66 K (f101_30 K q) (nI k) g1 = some ((), g') ∧ zScr g0 g' ∧ zBst m (fun p => zGp g0 x m p ∧ List.Perm p l) (zCp g0 x m) (g' 213 3) (g' 213 4) (g' 219) ∧ (¬ g' 213 3 = -1 → g' 217 1 = nI m) := by
      intro g1 s1 kin1 h1a H1 B1 h217a
      unfold f101_66
      rcases f107_sp (K := K) (m := m) (c := cf) (g := g1) hK (by omega) h1a H1 with ⟨c', g2, a1, a2, a3, a4, a5, a6⟩ | ⟨a1, a2⟩
      · rw [hrow] at a3 a4 a5
        have pm2 := a3.trans pm
        obtain ⟨g', b1, b2, b3, b4⟩ := ih q (k + 1) c' (row :: Ps) g2 (by omega) (by omega) (zScr_fr s1 (fun c hc => a6 c (by omega))) (zKin_fr kin1 (a6 183 (by decide)) (a6 185 (by decide))) (by rw [a6 214 (by decide)]; exact h1a) a2 pm2 (List.nodup_cons.mpr ⟨fun z => zwl_irr _ (hPs _ z).2, nd⟩) (by rw [List.length_cons, ln]) (fun p hp => by
          rcases List.mem_cons.mp hp with z | z
          · rw [z]; exact ⟨pm, a4⟩
          · exact ⟨(hPs p z).1, zwl_tr _ _ _ (hPs p z).2 a4⟩) (by
          rw [a6 213 (by decide), a6 219 (by decide)]
          refine zBst_cg B1 (fun r => ⟨fun ⟨z1, z2, z3⟩ => ⟨z1, z2, ?_⟩, fun ⟨z1, z2, z3⟩ => ⟨z1, z2, ?_⟩⟩)
          · rcases z3 with z | z
            · exact zwl_tr _ _ _ z a4
            · rw [z]; exact a4
          · rcases zwl_tri r row (by rw [z2.length_eq, pm.length_eq]) with z | z | z
            · exact Or.inl z
            · exact Or.inr z
            · rcases a5 r (z2.trans pm.symm) z with w | w
              · rw [w] at z3; exact absurd z3 (zwl_irr _)
              · exact absurd (zwl_tr _ _ _ w z3) (zwl_irr _)) (by rw [a6 213 (by decide), a6 217 (by decide)]; exact h217a)
        rw [a1, zbd_s, nI_1]
        exact ⟨g', b1, b2, b3, b4⟩
      · rw [hrow] at a2
        obtain ⟨q, rfl⟩ : ∃ z, q = z + 1 := ⟨q - 1, by omega⟩
        rw [a1, zbd_s, f101_30]
        refine ⟨g1, ?_, s1, zBst_cg B1 (fun r => ⟨fun ⟨z1, z2, z3⟩ => ⟨z1, z2⟩, fun ⟨z1, z2⟩ => ⟨z1, z2, ?_⟩⟩), h217a⟩
        · by_cases z : 720 ≤ nI k + 1
          · rw [if_pos z]
          · rw [if_neg z, if_pos (show (0 : Int32) = 0 from rfl)]
        · rcases a2 r (z2.trans pm.symm) with z | z
          · exact Or.inr z
          · exact Or.inl z
    rw [f101_30, if_neg (show ¬ (720 : Int32) ≤ nI k from nI_ge (b := 720) (by omega) (by omega)), if_neg (show ¬ (1 : Int32) = 0 by decide), f74_eq hK L Wd kin, zbd_s]
    by_cases hg : zGp g0 x m row
    · rw [decide_eq_true hg, if_neg (show ¬ nI true.toNat = 0 by decide), f60_sp hK I L Wd kin, zbd_s]
      obtain ⟨g1, a1, a2, a3, a4, a5⟩ := f105_sp (K := K) (m := m) (v := zPr g0 0 x m (zUl row)) (g := g) hK h214
      rw [a1, zbd_s]
      have c24 : zPr g0 0 x m (zUl row) ≤ 24 := zPr_le (by omega)
      refine go g1 (zScr_fr s (fun c hc => a5 c (by omega) (by omega) (by omega))) (zKin_fr kin (a5 183 (by decide) (by decide) (by decide)) (a5 185 (by decide) (by decide) (by decide))) (by rw [a5 214 (by decide) (by decide) (by decide)]; exact h214) (fun i hi => by rw [a5 216 (by decide) (by decide) (by decide)]; exact H i hi) ?_ ?_
      · refine zBst_up (c := row) (zCp_le (by omega)) B (fun r => ⟨fun ⟨z1, z2, z3⟩ => ?_, fun z => ?_⟩) a2 ?_
        · rcases z3 with z | z
          · exact Or.inl ⟨z1, z2, z⟩
          · exact Or.inr z
        · rcases z with ⟨z1, z2, z3⟩ | z
          · exact ⟨z1, z2, Or.inl z3⟩
          · rw [z]; exact ⟨hg, pm, Or.inr rfl⟩
        · by_cases t : g 213 3 = -1 ∨ nI (zPr g0 0 x m (zUl row)) < g 213 3
          · obtain ⟨t1, t2, t3⟩ := a3 t
            refine Or.inl ⟨t1, fun i hi => ?_, fun p p1 p2 p3 => ?_⟩
            · rw [t3 i (by omega), (H i hi).2]; exact (ur i hi).symm
            · have e := zCp_le (g0 := g0) (x := x) (m := m) (by omega) p
              rcases t with t | t
              · rw [p2] at t; exact absurd t (nI_nm1 (by omega))
              · rw [p2] at t
                exact Or.inl (Nat.lt_of_not_le fun z => absurd t (nI_nlt z (by omega)))
          · obtain ⟨t1, t2, t3⟩ := a4 t
            refine Or.inr ⟨t1, fun i hi => by rw [t3], fun z => t (Or.inl z), fun p p1 p2 p3 => ?_⟩
            have e := zCp_le (g0 := g0) (x := x) (m := m) (by omega) p
            have le : zCp g0 x m p ≤ zCp g0 x m row := Nat.le_of_not_lt fun z => t (Or.inr (by rw [p2]; exact nI_lt z (by omega)))
            by_cases y : zCp g0 x m p = zCp g0 x m row
            · exact Or.inr ⟨y, Or.inr p1.2.2⟩
            · exact Or.inl (by omega)
      · intro hn
        by_cases t : g 213 3 = -1 ∨ nI (zPr g0 0 x m (zUl row)) < g 213 3
        · exact (a3 t).2.1
        · obtain ⟨t1, t2, t3⟩ := a4 t
          rw [t2]
          exact h217 (fun z => t (Or.inl z))
    · rw [decide_eq_false hg, if_pos (show nI false.toNat = 0 by decide)]
      refine go g s kin h214 H (zBst_cg B (fun r => ⟨fun ⟨z1, z2, z3⟩ => ⟨z1, z2, Or.inl z3⟩, fun ⟨z1, z2, z3⟩ => ⟨z1, z2, ?_⟩⟩)) h217
      rcases z3 with z | z
      · exact z
      · rw [z] at z1; exact absurd z1 hg
theorem f101_sp {K m : Nat} {g0 g : zS} {x : Int32} {u : Nat → Nat} (hK : 1000 ≤ K) (hm : m ≤ 6) (I : zIto g0) (hu : ∀ i, i < m → u i < 10 ∧ nI (u i) < g0 4 0 ∧ g0 182 i = nI (u i)) (h180 : g0 180 1 = nI m) (s : zScr g0 g) (kin : zKin g0 x g) : ∃ g', f101 K 180 g = some ((), g') ∧ zScr g0 g' ∧ zBst m (fun p => zGp g0 x m p ∧ List.Perm p (zsg u 0 m)) (zCp g0 x m) (g' 213 3) (g' 213 4) (g' 219) ∧ (¬ g' 213 3 = -1 → g' 217 1 = nI m) := by
  have e180 : g 180 = g0 180 := zScr_c s (by omega)
  have e182 : g 182 = g0 182 := zScr_c s (by omega)
  obtain ⟨g1, a1, a2, a3, a4, a5⟩ := f102_sp (K := K) (o0 := 214) (o1 := 180) (m := m) (g := zup (zup g 213 3 (-1)) 213 4 (-1)) (by omega) (by decide +kernel) (by decide +kernel) (by decide) (by decide) (by rw [zup_c (by decide), zup_c (by decide), e180]; exact h180)
  have H1 : zHs m u g1 := fun i hi => by
    obtain ⟨u1, u2, u3⟩ := hu i hi
    refine ⟨by omega, ?_⟩
    have := a5 i (by omega)
    rw [zup_c (by decide), zup_c (by decide), show g (180 + 2) i = g0 182 i by rw [← e182], u3] at this
    exact this
  obtain ⟨c, g2, b1, b2, b3, b4, b5⟩ := f103_sp (K := K) (m := m) (c := u) (g := g1) (by omega) (by omega) a4 H1
  have hl : (zsg u 0 m).length = m := zsg_len m 0
  have e213 : g2 213 3 = -1 ∧ g2 213 4 = -1 := by
    rw [b5 213 (by decide), a2 213 (by decide) (by decide), zup_k (by decide), zup_s, zup_s]
    exact ⟨rfl, rfl⟩
  have oth : ∀ c, c < 213 ∨ 219 < c → g2 c = g c := fun c hc => by rw [b5 c (by omega), a2 c (by omega) (by omega), zup_c (by omega), zup_c (by omega)]
  obtain ⟨g', d1, d2, d3, d4⟩ := f101_lp (K := K) (m := m) (g0 := g0) (x := x) (u := u) (l := zsg u 0 m) (by omega) hm I rfl (fun z hz => by
    obtain ⟨k, k1, k2, k3⟩ := zsg_mem _ _ _ hz
    obtain ⟨u1, u2, -⟩ := hu k (by omega)
    rw [k3]
    exact ⟨u1, u2⟩) 720 K 0 c [] g2 rfl (by omega) (zScr_fr s oth) (zKin_fr kin (oth 183 (by omega)) (oth 185 (by omega))) (by rw [b5 214 (by decide)]; exact a4) b2 b3 List.nodup_nil rfl (fun p hp => by cases hp) (Or.inl ⟨fun p hp => by
      rcases zmin_le _ p b4 (hp.2.1.trans b3.symm) with z | z
      · rw [z] at hp; exact zwl_irr _ hp.2.2
      · exact zwl_irr _ (zwl_tr _ _ _ z hp.2.2), e213.1, e213.2⟩) (fun z => absurd e213.1 z)
  unfold f101
  rw [a1, zbd_s, b1, zbd_s]
  exact ⟨g', d1, d2, d3, d4⟩
