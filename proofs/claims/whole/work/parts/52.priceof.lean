-- ===== priceOf =====
theorem f65_eq {K l : Nat} {q : Int32} {b : Bool} {g : zS} (h : g 183 1 = nI l) (hl : l < 8) : f65 K q (nI b.toNat) g = some (if (l % 2 = 1 ∧ q = 4) ∨ (l / 2 % 2 = 1 ∧ b = true) then 1 else 0, g) := by
  obtain ⟨z1, z2, -⟩ := lb1 l hl
  have h14 : f65_14 K (nI b.toNat) g = some (if l / 2 % 2 = 1 ∧ b = true then 1 else 0, g) := by
    unfold f65_14
    rw [h]
    cases b
    · rw [if_pos (by decide), if_neg (fun z => by have := z.2; contradiction)]
    · rw [if_neg (by decide)]
      by_cases q2 : l / 2 % 2 = 0
      · rw [if_pos (z2.mpr q2), if_neg (fun z => by have := z.1; omega)]
      · rw [if_neg (fun z => q2 (z2.mp z)), if_pos ⟨by omega, rfl⟩]
  unfold f65
  rw [h14, h]
  by_cases q4 : q = 4
  · rw [if_neg (fun z => z q4)]
    by_cases q1 : l % 2 = 0
    · rw [if_neg (fun z => z (z1.mpr q1))]
      by_cases q2 : l / 2 % 2 = 1 ∧ b = true
      · rw [if_pos q2, if_pos (Or.inr q2)]
      · rw [if_neg q2, if_neg (fun z => by rcases z with z | z; exact absurd z.1 (by omega); exact q2 z)]
    · rw [if_pos (fun z => q1 (z1.mp z)), if_pos (Or.inl ⟨by omega, q4⟩)]
  · rw [if_pos q4]
    by_cases q2 : l / 2 % 2 = 1 ∧ b = true
    · rw [if_pos q2, if_pos (Or.inr q2)]
    · rw [if_neg q2, if_neg (fun z => by rcases z with z | z; exact q4 z.2; exact q2 z)]
theorem f66_eq {K l a : Nat} {q : Int32} {g : zS} (h : g 183 1 = nI l) (hl : l < 8) (ha : a < 100) : f66 K q (nI a) g = some (nI ((if q = 3 then 1 else 2) + (if l / 4 % 2 = 1 ∧ 2 ≤ a then 1 else 0)), g) := by
  obtain ⟨-, -, z3, -⟩ := lb1 l hl
  have h19 : ∀ w : Nat, f66_19 K q (nI w) g = some (nI ((if q = 3 then 1 else 2) + w), g) := by
    intro w
    unfold f66_19
    by_cases q3 : q = 3
    · rw [if_neg (fun z => z q3), if_pos q3, nI_lit1, nI_add]
    · rw [if_pos q3, if_neg q3, show (2 : Int32) = nI 2 from rfl, nI_add]
  have h190 : f66_19 K q 0 g = some (nI ((if q = 3 then 1 else 2) + 0), g) := h19 0
  have h191 : f66_19 K q 1 g = some (nI ((if q = 3 then 1 else 2) + 1), g) := h19 1
  unfold f66 f66_18
  rw [h, h190, h191]
  by_cases q4 : l / 4 % 2 = 0
  · rw [if_pos (z3.mpr q4), if_neg (show ¬ (l / 4 % 2 = 1 ∧ 2 ≤ a) by omega)]
  · rw [if_neg (fun z => q4 (z3.mp z)), show (2 : Int32) = nI 2 from rfl]
    by_cases q2 : a < 2
    · rw [if_pos ((nI_ltI (by omega) (by omega)).mpr q2), if_neg (show ¬ (l / 4 % 2 = 1 ∧ 2 ≤ a) by omega)]
    · rw [if_neg (fun z => q2 ((nI_ltI (by omega) (by omega)).mp z)), if_pos (show l / 4 % 2 = 1 ∧ 2 ≤ a by omega)]
theorem f67_eq {K v : Nat} {κ : Int32} {f : Bool} {g : zS} : f67 K κ (nI f.toNat) (nI v) g = some (nI (if κ = 3 then (if f = true then v else 1) else if κ = 2 then 1 else 0), g) := by
  unfold f67
  by_cases h3 : κ = 3
  · rw [if_neg (fun z => z h3), if_pos h3]
    cases f
    · rw [if_pos (by decide), if_neg (by decide)]; rfl
    · rw [if_neg (by decide), if_pos rfl]
  · rw [if_pos h3, if_neg h3]
    by_cases h2 : κ = 2
    · rw [if_neg (fun z => z h2), if_pos h2]; rfl
    · rw [if_pos h2, if_neg h2]; rfl
theorem f60_90_eq {K : Nat} {k : Nat → Int32 → Int32 → Int32 → Int32 → Int32 → Int32 → Int32 → zS → Option (Int32 × zS)} {o v : Nat} {κ x3 x4 x5 x7 x8 x9 q : Int32} {f : Bool} {g : zS} (hv : v < 100) : f60_90 K k o κ x3 x4 x5 (nI f.toNat) x7 x8 x9 q (nI v) g = f60_133 K k o κ (x3 + nI (v - zof κ q f v)) x4 (x5 + 1) (nI (f && !decide (q = 2 ∧ 0 < v)).toNat) x7 x8 x9 g := by
  unfold f60_90
  by_cases h2 : q = 2
  · rw [if_neg (fun z => z h2)]
    by_cases h0 : v = 0
    · rw [if_pos (by rw [h0]; decide)]
      unfold f60_119 zof
      rw [if_neg (show ¬ (q = 2 ∧ 0 < v) by omega), decide_eq_false (show ¬ (q = 2 ∧ 0 < v) by omega), Nat.sub_zero, Bool.not_false, Bool.and_true]
    · rw [if_neg (nI_nle (by omega) (by omega)), f67_eq, zbd_s]
      have e : (if κ = 3 then (if f = true then v else 1) else if κ = 2 then 1 else 0) = zof κ q f v := by
        unfold zof
        rw [if_pos (show q = 2 ∧ 0 < v from ⟨h2, by omega⟩)]
      unfold f60_119
      rw [e, pk_sub zof_le, decide_eq_true (show q = 2 ∧ 0 < v from ⟨h2, by omega⟩), Bool.not_true, Bool.and_false]
      rfl
  · rw [if_pos h2]
    unfold f60_119 zof
    rw [if_neg (show ¬ (q = 2 ∧ 0 < v) from fun z => h2 z.1), decide_eq_false (show ¬ (q = 2 ∧ 0 < v) from fun z => h2 z.1), Nat.sub_zero, Bool.not_false, Bool.and_true]
theorem nI_inj {a b : Nat} (ha : a < 2 ^ 31) (hb : b < 2 ^ 31) : decide (nI a = nI b) = decide (a = b) := by
  by_cases h : a = b
  · rw [decide_eq_true h, decide_eq_true (by rw [h])]
  · rw [decide_eq_false h, decide_eq_false (fun z => h ((nI_eq ha hb).mp z))]
theorem nI_nm1 {a : Nat} (ha : a < 2 ^ 31) : ¬ nI a = -1 := by
  intro q
  have := congrArg Int32.toInt q
  rw [nI_toInt ha, show ((-1 : Int32)).toInt = -1 from rfl] at this
  omega
theorem f60_133_eq {K : Nat} {k : Nat → Int32 → Int32 → Int32 → Int32 → Int32 → Int32 → Int32 → zS → Option (Int32 × zS)} {o i sb : Nat} {κ x3 x5 x6 x7 : Int32} {U : Nat → Int32} {g : zS} (hw : U i = -1 ∨ ∃ w : Nat, w < 10 ∧ U i = nI w) (hs : sb < 1024) (hb : ∀ w, w < 10 → sb.testBit w = zah U (nI w) i) : ∃ sb2, sb2 < 1024 ∧ (∀ w, w < 10 → sb2.testBit w = zah U (nI w) (i + 1)) ∧ f60_133 K k o κ x3 (nI sb) x5 x6 x7 (nI i) (U i) g = k o κ x3 (nI sb2) x5 x6 x7 (nI (i + 1)) g := by
  unfold f60_133 f60_149
  rcases hw with h | ⟨w, h1, h2⟩
  · refine ⟨sb, hs, fun w hw => ?_, ?_⟩
    · unfold zah
      rw [hb w hw, h, decide_eq_false (fun z => nI_nm1 (a := w) (by omega) z.symm), Bool.or_false]
    · rw [if_neg (fun z => z h), show (0 : Int32) = nI 0 from rfl, nx_or, Nat.or_zero, nI_1]
  · have hn : ¬ U i = -1 := by rw [h2]; exact nI_nm1 (by omega)
    refine ⟨sb ||| 2 ^ w, Nat.or_lt_two_pow (n := 10) hs (Nat.pow_lt_pow_right (by decide) h1), fun v hv => ?_, ?_⟩
    · unfold zah
      rw [Nat.testBit_or, hb v hv, Nat.testBit_two_pow, h2, nI_inj (by omega) (by omega)]
    · rw [if_pos hn, h2, nx_one (by omega), nx_or, nI_1]
theorem f60_lp {K o m l : Nat} {U Q : Nat → Int32} {κ : Int32} {g : zS} (L : zLn o m U g) (hQ : ∀ i, i < 100 → f61 K o (nI i) g = some (Q i, g)) (h183 : g 183 1 = nI l) (hl : l < 8) (hW : ∀ i, i < m → U i = -1 ∨ ∃ w : Nat, w < 10 ∧ U i = nI w) (hQn : ∀ i, i < m → U i = -1 → Q i = -1) : ∀ d i n s sb a (f : Bool), i + d = m → d < n → sb < 1024 → (∀ w, w < 10 → sb.testBit w = zah U (nI w) i) → (1 ≤ a ↔ 1 ≤ i ∧ zaj (Q (i - 1))) → (2 ≤ a ↔ 2 ≤ i ∧ zaj (Q (i - 1)) ∧ zaj (Q (i - 2))) → a ≤ i → s ≤ 3 * i → f60_22 K n o κ (nI s) (nI sb) (nI a) (nI f.toNat) (Q i) (nI i) g = some (nI (zps l κ Q U d i s f), g) := by
  have hm := L.2.1
  have hL := L.2.2.1
  intro d
  induction d with
  | zero =>
    intro i n s sb a f h1 h2 h3 h4 h5 h6 h7 h8
    obtain ⟨n, rfl⟩ : ∃ q, n = q + 1 := ⟨n - 1, by omega⟩
    rw [f60_22, hL, if_pos (nI_le (by omega) (by omega))]
    rfl
  | succ d ih =>
    intro i n s sb a f h1 h2 h3 h4 h5 h6 h7 h8
    obtain ⟨n, rfl⟩ : ∃ q, n = q + 1 := ⟨n - 1, by omega⟩
    have him : i < m := by omega
    rw [f60_22, hL, if_neg (nI_ge him (by omega)), f62_eq L (by omega), zbd_s, nI_1, hQ (i + 1) (by omega), zbd_s, f63_eq, zbd_s, if_pos him]
    unfold zps
    by_cases ha : zaj (Q i)
    · rw [if_pos ha, if_neg (by decide)]
      have hu : ¬ U i = -1 := by
        intro z
        rw [hQn i him z] at ha
        revert ha
        decide
      obtain ⟨w, w1, w2⟩ := (hW i him).resolve_left hu
      have hv : zpc l Q U i = if (l % 2 = 1 ∧ Q (i + 1) = 4) ∨ (l / 2 % 2 = 1 ∧ sb.testBit w = true) then 0 else (if Q i = 3 then 1 else 2) + (if l / 4 % 2 = 1 ∧ 2 ≤ a then 1 else 0) := by
        unfold zpc
        rw [h4 w w1, ← w2]
        by_cases q : (l % 2 = 1 ∧ Q (i + 1) = 4) ∨ (l / 2 % 2 = 1 ∧ zah U (U i) i = true)
        · rw [if_pos (Or.inr q), if_pos q]
        · rw [if_neg (fun z => by rcases z with z | z; exact z ha; exact q z), if_neg q]
          congr 1
          by_cases q2 : l / 4 % 2 = 1 ∧ 2 ≤ a
          · rw [if_pos q2, if_pos ⟨q2.1, h6.mp q2.2⟩]
          · rw [if_neg q2, if_neg (fun z => q2 ⟨z.1, h6.mpr z.2⟩)]
      have hle := @zpc_le l Q U i
      obtain ⟨sb2, t1, t2, t3⟩ := f60_133_eq (K := K) (k := f60_22 K n) (o := o) (κ := κ) (x3 := nI s + nI (zpc l Q U i - zof κ (Q i) f (zpc l Q U i))) (x5 := nI a + 1) (x6 := nI (f && !decide (Q i = 2 ∧ 0 < zpc l Q U i)).toNat) (x7 := Q (i + 1)) (g := g) (hW i him) h3 h4
      have fin : f60_90 K (f60_22 K n) o κ (nI s) (nI sb) (nI a) (nI f.toNat) (Q (i + 1)) (nI i) (U i) (Q i) (nI (zpc l Q U i)) g = some (nI (zps l κ Q U d (i + 1) (s + (zpc l Q U i - zof κ (Q i) f (zpc l Q U i))) (f && !decide (Q i = 2 ∧ 0 < zpc l Q U i))), g) := by
        rw [f60_90_eq (by omega), t3, nI_add, nI_1]
        refine ih (i + 1) n _ sb2 (a + 1) _ (by omega) (by omega) t1 t2 ?_ ?_ (by omega) (by omega)
        · rw [show i + 1 - 1 = i by omega]
          exact ⟨fun _ => ⟨by omega, ha⟩, fun _ => by omega⟩
        · rw [show i + 1 - 1 = i by omega, show i + 1 - 2 = i - 1 by omega]
          exact ⟨fun q => ⟨by omega, ha, (h5.mp (by omega)).2⟩, fun q => by have := h5.mpr ⟨by omega, q.2.2⟩; omega⟩
      rw [w2, f64_eq (by omega) (by omega), zbd_s, f65_eq h183 hl, zbd_s, ← w2]
      by_cases q : (l % 2 = 1 ∧ Q (i + 1) = 4) ∨ (l / 2 % 2 = 1 ∧ sb.testBit w = true)
      · rw [if_pos q, if_neg (by decide), show (0 : Int32) = nI (zpc l Q U i) by rw [hv, if_pos q]; rfl]
        exact fin
      · rw [if_neg q, if_pos rfl, f66_eq h183 hl (by omega), zbd_s]
        rw [if_neg q] at hv
        rw [← hv]
        exact fin
    · rw [if_neg ha, if_pos rfl]
      have hv : zpc l Q U i = 0 := by
        unfold zpc
        rw [if_pos (Or.inl ha)]
      obtain ⟨sb2, t1, t2, t3⟩ := f60_133_eq (K := K) (k := f60_22 K n) (o := o) (κ := κ) (x3 := nI s) (x5 := nI 0) (x6 := nI f.toNat) (x7 := Q (i + 1)) (g := g) (hW i him) h3 h4
      have e1 : zof κ (Q i) f 0 = 0 := Nat.le_zero.mp zof_le
      rw [hv, e1, decide_eq_false (show ¬ (Q i = 2 ∧ 0 < 0) by omega), Bool.not_false, Bool.and_true, show (0 : Int32) = nI 0 from rfl, t3]
      refine ih (i + 1) n _ sb2 0 f (by omega) (by omega) t1 t2 ?_ ?_ (by omega) (by omega)
      · rw [show i + 1 - 1 = i by omega]
        exact ⟨fun q => by omega, fun q => absurd q.2 ha⟩
      · rw [show i + 1 - 1 = i by omega]
        exact ⟨fun q => by omega, fun q => absurd q.2.1 ha⟩
theorem zQ_m1 {g0 : zS} {x : Int32} {m : Nat} {U : Nat → Int32} : ∀ i, i < m → U i = -1 → zQ g0 x m U i = -1 := by
  intro i h1 h2
  unfold zQ
  rw [if_pos h1, if_pos h2]
theorem zWds_w {g0 : zS} {m : Nat} {U : Nat → Int32} (h : zWds g0 m U) : ∀ i, i < m → U i = -1 ∨ ∃ w : Nat, w < 10 ∧ U i = nI w := fun i hi => by
  rcases h i hi with q | ⟨w, q1, q2, -⟩
  · exact Or.inl q
  · exact Or.inr ⟨w, q1, q2⟩
/-- priceOf -/
theorem f60_sp {K o m : Nat} {U : Nat → Int32} {g0 g : zS} {κ x : Int32} (hK : 20 ≤ K) (I : zIto g0) (L : zLn o m U g) (Wd : zWds g0 m U) (k : zKin g0 x g) : f60 K o κ g = some (nI (zPr g0 κ x m U), g) := by
  obtain ⟨w, p, c, r, l, b0, ⟨b1, b2, b3, b4, b5⟩, -⟩ := id I
  have hm := L.2.1
  unfold f60 zPr
  rw [b5, nI_clamp (by omega), show (0 : Int32) = nI 0 from rfl, f61_eq L Wd k (by omega), zbd_s]
  exact f60_lp (l := l) L (fun i hi => f61_eq L Wd k hi) (by rw [k.1, b5]) (by omega) (zWds_w Wd) zQ_m1 m 0 K 0 0 0 true (by omega) (by omega) (by omega) (fun w _ => by rw [Nat.zero_testBit]; rfl) ⟨fun q => by omega, fun q => by omega⟩ ⟨fun q => by omega, fun q => by omega⟩ (by omega) (by omega)
theorem zPr_le {g0 : zS} {κ x : Int32} {m : Nat} {U : Nat → Int32} (hm : m ≤ 8) : zPr g0 κ x m U ≤ 24 := by
  have := @zps_le (g0 4 4).toNatClampNeg κ (zQ g0 x m U) U m 0 0 true
  unfold zPr
  omega
