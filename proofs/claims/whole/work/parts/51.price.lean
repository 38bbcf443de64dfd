-- ===== what a line costs =====
abbrev zaj (q : Int32) : Prop := q = 1 ∨ q = 2 ∨ q = 3
/-- was u among the first i -/
def zah (U : Nat → Int32) (u : Int32) : Nat → Bool
  | 0 => false
  | i + 1 => zah U u i || decide (U i = u)
/-- what place i costs a citizen; l: the rules, Q: the kinds, U: the words -/
def zpc (l : Nat) (Q U : Nat → Int32) (i : Nat) : Nat := if ¬ zaj (Q i) ∨ (l % 2 = 1 ∧ Q (i + 1) = 4) ∨ (l / 2 % 2 = 1 ∧ zah U (U i) i = true) then 0 else (if Q i = 3 then 1 else 2) + (if l / 4 % 2 = 1 ∧ 2 ≤ i ∧ zaj (Q (i - 1)) ∧ zaj (Q (i - 2)) then 1 else 0)
/-- what one of kind κ is let off there -/
def zof (κ : Int32) (q : Int32) (f : Bool) (v : Nat) : Nat := if q = 2 ∧ 0 < v then (if κ = 3 then (if f = true then v else 1) else if κ = 2 then 1 else 0) else 0
def zps (l : Nat) (κ : Int32) (Q U : Nat → Int32) : Nat → Nat → Nat → Bool → Nat
  | 0, _, s, _ => s
  | d + 1, i, s, f => zps l κ Q U d (i + 1) (s + (zpc l Q U i - zof κ (Q i) f (zpc l Q U i))) (f && !decide (Q i = 2 ∧ 0 < zpc l Q U i))
theorem zpc_le {l : Nat} {Q U : Nat → Int32} {i : Nat} : zpc l Q U i ≤ 3 := by
  unfold zpc
  by_cases h : ¬ zaj (Q i) ∨ (l % 2 = 1 ∧ Q (i + 1) = 4) ∨ (l / 2 % 2 = 1 ∧ zah U (U i) i = true)
  · rw [if_pos h]; omega
  · rw [if_neg h]
    have a : (if Q i = 3 then 1 else 2) ≤ 2 := by by_cases q : Q i = 3 <;> simp [q]
    have b : (if l / 4 % 2 = 1 ∧ 2 ≤ i ∧ zaj (Q (i - 1)) ∧ zaj (Q (i - 2)) then 1 else 0) ≤ 1 := by
      by_cases q : l / 4 % 2 = 1 ∧ 2 ≤ i ∧ zaj (Q (i - 1)) ∧ zaj (Q (i - 2))
      · rw [if_pos q]; omega
      · rw [if_neg q]; omega
    omega
theorem zof_le {κ q : Int32} {f : Bool} {v : Nat} : zof κ q f v ≤ v := by
  unfold zof
  by_cases h : q = 2 ∧ 0 < v
  · rw [if_pos h]
    by_cases h1 : κ = 3
    · rw [if_pos h1]
      by_cases h2 : f = true
      · rw [if_pos h2]; omega
      · rw [if_neg h2]; omega
    · rw [if_neg h1]
      by_cases h2 : κ = 2
      · rw [if_pos h2]; omega
      · rw [if_neg h2]; omega
  · rw [if_neg h]; omega
theorem zps_le {l : Nat} {κ : Int32} {Q U : Nat → Int32} : ∀ {d i s : Nat} {f : Bool}, zps l κ Q U d i s f ≤ s + 3 * d := by
  intro d
  induction d with
  | zero => intro i s f; exact Nat.le_refl _
  | succ d ih =>
    intro i s f
    unfold zps
    have := @ih (i + 1) (s + (zpc l Q U i - zof κ (Q i) f (zpc l Q U i))) (f && !decide (Q i = 2 ∧ 0 < zpc l Q U i))
    have := @zpc_le l Q U i
    omega
-- ===== bits =====
theorem lb1 : ∀ l, l < 8 → ((nI l &&& 1 = 0 ↔ l % 2 = 0) ∧ (nI l &&& 2 = 0 ↔ l / 2 % 2 = 0) ∧ (nI l &&& 4 = 0 ↔ l / 4 % 2 = 0) ∧ ((nI l >>> ((0 : Int32) &&& 31)) &&& 1 = 1 ↔ l % 2 = 1) ∧ ((nI l >>> ((1 : Int32) &&& 31)) &&& 1 = 1 ↔ l / 2 % 2 = 1) ∧ ((nI l >>> ((2 : Int32) &&& 31)) &&& 1 = 1 ↔ l / 4 % 2 = 1)) := by decide +kernel
theorem nx_and (a b : Nat) : nI a &&& nI b = nI (a &&& b) := by
  apply Int32.toBitVec_inj.1
  show BitVec.ofNat 32 a &&& BitVec.ofNat 32 b = BitVec.ofNat 32 (a &&& b)
  apply BitVec.eq_of_getLsbD_eq
  intro i hi
  simp [hi]
theorem nx_or (a b : Nat) : nI a ||| nI b = nI (a ||| b) := by
  apply Int32.toBitVec_inj.1
  show BitVec.ofNat 32 a ||| BitVec.ofNat 32 b = BitVec.ofNat 32 (a ||| b)
  apply BitVec.eq_of_getLsbD_eq
  intro i hi
  simp [hi]
theorem sm16 : ∀ w, w < 16 → ((nI w &&& 31).toBitVec.smod 32).toNat = w := by decide +kernel
theorem nx_bit {a w : Nat} (ha : a < 2 ^ 31) (hw : w < 16) : (nI a >>> (nI w &&& 31)) &&& 1 = nI (a.testBit w).toNat := by
  rw [pk_shrN ha _ w (sm16 w hw), show (1 : Int32) = nI 1 from rfl, nx_and, Nat.and_one_is_mod, Nat.testBit_eq_decide_div_mod_eq]
  congr 1
  rcases Nat.mod_two_eq_zero_or_one (a / 2 ^ w) with h | h <;> rw [h] <;> rfl
theorem nx_one {w : Nat} (hw : w < 16) : (1 : Int32) <<< (nI w &&& 31) = nI (2 ^ w) := by
  have := pk_shlN (n := 1) (nI w &&& 31) w (sm16 w hw) (by rw [Nat.one_mul]; exact Nat.pow_lt_pow_right (by decide) (by omega))
  rw [Nat.one_mul] at this
  exact this
theorem f64_eq {K a w : Nat} {g : zS} (ha : a < 2 ^ 31) (hw : w < 16) : f64 K (nI a) (nI w) g = some (nI (a.testBit w).toNat, g) := by
  unfold f64
  rw [nx_bit ha hw]
  cases a.testBit w
  · rw [if_pos (by decide)]; rfl
  · rw [if_neg (by decide)]; rfl
theorem f177_eq {K a w : Nat} {g : zS} (ha : a < 2 ^ 31) (hw : w < 16) : f177 K (nI a) (nI w) g = some (nI (a.testBit w).toNat, g) := by
  unfold f177
  rw [nx_bit ha hw]
  cases a.testBit w
  · rw [if_pos (by decide)]; rfl
  · rw [if_neg (by decide)]; rfl
theorem f63_eq {K : Nat} {q : Int32} {g : zS} : f63 K q g = some (if zaj q then 1 else 0, g) := by
  unfold f63 zaj
  by_cases h1 : q = 1
  · rw [if_pos h1, if_pos (Or.inl h1)]
  · rw [if_neg h1]
    by_cases h2 : q = 2
    · rw [if_pos h2, if_pos (Or.inr (Or.inl h2))]
    · rw [if_neg h2]
      by_cases h3 : q = 3
      · rw [if_neg (fun z => z h3), if_pos (Or.inr (Or.inr h3))]
      · rw [if_pos h3, if_neg (fun z => by rcases z with z | z | z <;> contradiction)]
-- ===== the class: a line, its kinds =====
/-- a line object at o holds m words U -/
def zLn (o m : Nat) (U : Nat → Int32) (g : zS) : Prop := zlen (o + 1 + 1) = 8 ∧ m ≤ 8 ∧ g o 1 = nI m ∧ ∀ i, i < m → g (o + 2) i = U i
/-- words that there are -/
def zWds (g0 : zS) (m : Nat) (U : Nat → Int32) : Prop := ∀ i, i < m → U i = -1 ∨ ∃ w : Nat, w < 10 ∧ U i = nI w ∧ nI w < g0 4 0
/-- the kind at place i -/
def zQ (g0 : zS) (x : Int32) (m : Nat) (U : Nat → Int32) (i : Nat) : Int32 := if i < m then (if U i = -1 then -1 else zkd g0 (U i).toNatClampNeg x) else -1
/-- the class has looked up the kinds of week x -/
def zKin (g0 : zS) (x : Int32) (g : zS) : Prop := g 183 1 = g0 4 4 ∧ ∀ a, a < 10 → nI a < g0 4 0 → g 185 a = zkd g0 a x
def zPr (g0 : zS) (κ x : Int32) (m : Nat) (U : Nat → Int32) : Nat := zps (g0 4 4).toNatClampNeg κ (zQ g0 x m U) U m 0 0 true
theorem f59_lp {K w : Nat} {g0 : zS} {x : Int32} (hK : 8 ≤ K) (I : zIto g0) (hw : g0 4 0 = nI w) (hw2 : w ≤ 10) : ∀ d i k (g : zS), i + d = w → d < k → zScr g0 g → ∃ g', f59_10 K k 4 x (nI i) g = some ((), g') ∧ zScr g0 g' ∧ (∀ c, c ≠ 185 → g' c = g c) ∧ ∀ a, a < w → g' 185 a = if i ≤ a then zkd g0 a x else g 185 a := by
  intro d
  induction d with
  | zero =>
    intro i k g h1 h2 s
    obtain ⟨k, rfl⟩ : ∃ q, k = q + 1 := ⟨k - 1, by omega⟩
    refine ⟨g, ?_, s, fun c _ => rfl, fun a ha => by rw [if_neg (by omega)]⟩
    rw [f59_10, zScr_c s (by omega), hw, if_pos (nI_le (by omega) (by omega))]
  | succ d ih =>
    intro i k g h1 h2 s
    obtain ⟨k, rfl⟩ : ∃ q, k = q + 1 := ⟨k - 1, by omega⟩
    obtain ⟨g', e1, e2, e3, e4⟩ := ih (i + 1) k (zup g 185 i (zkd g0 i x)) (by omega) (by omega) (zScr_up s (by unfold zKeep; omega))
    refine ⟨g', ?_, e2, fun c hc => by rw [e3 c hc, zup_c hc], fun a ha => ?_⟩
    · rw [f59_10, zScr_c s (c := 4) (by omega), hw, if_neg (nI_ge (by omega) (by omega)), f49_k hK I s (by omega), zbd_s, f14_eq (by exact (show i < 10 by omega)) (by decide), zbd_s, nI_1, e1]
    · rw [e4 a ha, zup_e]
      by_cases q : a = i
      · rw [if_neg (by omega), if_pos q, if_pos (by omega), q]
      · rw [if_neg q]
        by_cases q2 : i + 1 ≤ a
        · rw [if_pos q2, if_pos (by omega)]
        · rw [if_neg q2, if_neg (by omega)]
theorem f59_sp {K : Nat} {g0 g : zS} {x : Int32} (hK : 20 ≤ K) (I : zIto g0) (s : zScr g0 g) : ∃ g', f59 K 4 x g = some ((), g') ∧ zScr g0 g' ∧ (∀ c, c ≠ 183 → c ≠ 185 → g' c = g c) ∧ zKin g0 x g' := by
  obtain ⟨w, p, c, r, l, b0, ⟨b1, b2, b3, b4, b5⟩, -⟩ := id I
  obtain ⟨g', e1, e2, e3, e4⟩ := f59_lp (K := K) (x := x) (by omega) I b1 (by omega) w 0 K (zup g 183 1 (g 4 4)) (by omega) (by omega) (zScr_up s (by unfold zKeep; omega))
  refine ⟨g', e1, e2, fun c h1 h2 => by rw [e3 c h2, zup_c h1], ?_, fun a ha h => ?_⟩
  · rw [e3 183 (by decide), zup_s, zScr_c s (by omega)]
  · rw [b1] at h
    rw [e4 a ((nI_ltI (by omega) (by omega)).mp h), if_pos (by omega)]
theorem f62_eq {K o m i : Nat} {U : Nat → Int32} {g : zS} (L : zLn o m U g) (hi : i < 100) : f62 K o (nI i) g = some (if i < m then U i else -1, g) := by
  obtain ⟨z, hm, h1, h2⟩ := L
  unfold f62
  rw [if_neg (nI_pos (by omega)), h1]
  by_cases h : i < m
  · rw [if_neg (nI_ge h (by omega)), f21_eq (by rw [z]; omega) (by rw [z]; decide), zbd_s, if_pos h, ← h2 i h]
  · rw [if_pos (nI_le (by omega) (by omega)), if_neg h]
theorem f61_eq {K o m i : Nat} {U : Nat → Int32} {g0 g : zS} {x : Int32} (L : zLn o m U g) (Wd : zWds g0 m U) (k : zKin g0 x g) (hi : i < 100) : f61 K o (nI i) g = some (zQ g0 x m U i, g) := by
  unfold f61 zQ
  rw [f62_eq L hi, zbd_s]
  by_cases h : i < m
  · rw [if_pos h, if_pos h]
    rcases Wd i h with h1 | ⟨w, h1, h2, h3⟩
    · rw [if_neg (fun q => q h1), if_pos h1]
    · have : ¬ U i = -1 := by
        rw [h2]
        intro q
        have := congrArg Int32.toInt q
        rw [nI_toInt (by omega), show ((-1 : Int32)).toInt = -1 from rfl] at this
        omega
      rw [if_pos this, if_neg this, h2, f21_eq (by exact (show w < 10 by omega)) (by decide), zbd_s, nI_clamp (by omega)]
      exact congrArg (fun q => some (q, g)) (k.2 w h1 h3)
  · rw [if_neg h, if_neg h, if_neg (fun q => q rfl)]
