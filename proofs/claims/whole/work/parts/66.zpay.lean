-- ===== payments: both tables say the same =====
/-- sums over sets that are apart add up -/
theorem zss_or {F : Nat → Int32} {A B : Nat} (h : A &&& B = 0) : ∀ {i : Nat}, zss F (A ||| B) i = zss F A i + zss F B i := by
  intro i
  induction i with
  | zero => rfl
  | succ i ih =>
    rw [zss_s, zss_s, zss_s, ih, Nat.testBit_or]
    have hb : (A.testBit i && B.testBit i) = false := by rw [← Nat.testBit_and, h, Nat.zero_testBit]
    cases ha : A.testBit i with
    | false =>
      rw [Bool.false_or, if_neg (show ¬ false = true by decide), Int32.add_zero, Int32.add_assoc]
    | true =>
      cases hb2 : B.testBit i with
      | true => rw [ha, hb2] at hb; exact absurd hb (by decide)
      | false =>
        rw [Bool.true_or, if_pos (show true = true from rfl), if_neg (show ¬ false = true by decide), Int32.add_zero, Int32.add_assoc, Int32.add_assoc, Int32.add_comm (zss F B i)]
/-- of two sets apart and their union: if two have a sum of 0, the third has -/
def zcq (Z : Nat → Bool) : Bool := (List.range 16).all fun A => (List.range 16).all fun B => !decide (A &&& B = 0) || ((!(Z A && Z B) || Z (A ||| B)) && (!(Z A && Z (A ||| B)) || Z B))
/-- all sets, out of seven of them -/
def zZf (a b c d e f h : Bool) (S : Nat) : Bool := match S with
  | 1 => a
  | 2 => b
  | 3 => c
  | 4 => d
  | 5 => e
  | 6 => f
  | 7 => h
  | 8 => h
  | 9 => f
  | 10 => e
  | 11 => d
  | 12 => c
  | 13 => b
  | 14 => a
  | _ => true
theorem zdp : ∀ a b c d e f h : Bool, zcq (zZf a b c d e f h) = true → ∀ p, p < 5 → zZf a b c d e f h (2 ^ p - 1) = true → zTb (zZf a b c d e f h) p (2 ^ p - 1) (2 ^ p - 1) + 1 = zRt (zZf a b c d e f h) 16 (2 ^ p - 1) ∧ zbc (2 ^ p - 1) 8 = p := by decide +kernel
theorem zmg_c {T T2 : Nat → Nat} {S : Nat} (h : ∀ x, x < S → T x = T2 x) : ∀ {i : Nat}, zmg T S i = zmg T2 S i := by
  intro i
  induction i with
  | zero => rfl
  | succ i ih =>
    rw [zmg_s, zmg_s, ih]
    cases hb : S.testBit i with
    | false => rfl
    | true =>
      have h1 := tb_le hb
      have h2 := Nat.two_pow_pos i
      rw [h _ (by omega)]
theorem zTb_c {Z Z2 : Nat → Bool} {p : Nat} : ∀ {k : Nat}, (∀ x, 0 < x → x ≤ k → Z x = Z2 x) → ∀ S, zTb Z p k S = zTb Z2 p k S := by
  intro k
  induction k with
  | zero => intro _ S; rfl
  | succ k ih =>
    intro h S
    have h1 := ih fun x x1 x2 => h x x1 (by omega)
    rw [zTb_s, zTb_s, h1 S, h (k + 1) (by omega) (by omega), zmg_c (fun x _ => h1 x)]
theorem zRs_c {Z Z2 : Nat → Bool} {T T2 : Nat → Nat} {S : Nat} (hT : ∀ x, T x = T2 x) : ∀ {d q r : Nat}, (∀ x, q ≤ x → x < q + d → Z x = Z2 x) → zRs Z T S d q r = zRs Z2 T2 S d q r := by
  intro d
  induction d with
  | zero => intro q r _; rfl
  | succ d ih =>
    intro q r h
    have e : zRn Z T S q = zRn Z2 T2 S q := by
      unfold zRn
      rw [h q (by omega) (by omega), hT]
    rw [zRs_s, zRs_s, e]
    exact ih fun x x1 x2 => h x (by omega) (by omega)
theorem zRt_c {Z Z2 : Nat → Bool} : ∀ {k : Nat}, (∀ x, 0 < x → x < k → Z x = Z2 x) → ∀ S, zRt Z k S = zRt Z2 k S := by
  intro k
  induction k with
  | zero => intro _ S; rfl
  | succ k ih =>
    intro h S
    have h1 := ih fun x x1 x2 => h x x1 (by omega)
    rw [zRt_s, zRt_s, h1 S, zRs_c h1 (fun x x1 x2 => h x (by omega) (by omega))]
theorem zss_z {F : Nat → Int32} {S p : Nat} (h : ∀ i, p ≤ i → F i = 0) : ∀ {d : Nat}, zss F S (p + d) = zss F S p := by
  intro d
  induction d with
  | zero => rfl
  | succ d ih =>
    rw [show p + (d + 1) = p + d + 1 by omega, zss_s, ih, h (p + d) (by omega)]
    by_cases q : S.testBit (p + d) = true
    · rw [if_pos q, Int32.add_zero]
    · rw [if_neg q, Int32.add_zero]
theorem zN_sum (D : Nat → Int32) : (((D 0 - D 0) + (D 4 - D 1) + (D 8 - D 2) + (D 12 - D 3)) + ((D 1 - D 4) + (D 5 - D 5) + (D 9 - D 6) + (D 13 - D 7)) + ((D 2 - D 8) + (D 6 - D 9) + (D 10 - D 10) + (D 14 - D 11)) + ((D 3 - D 12) + (D 7 - D 13) + (D 11 - D 14) + (D 15 - D 15))) = 0 := by grind
theorem zZ_con {g0 : zS} {p : Nat} : zcq (zZ g0 p) = true := by
  unfold zcq
  refine List.all_eq_true.mpr fun A _ => List.all_eq_true.mpr fun B _ => ?_
  by_cases h : A &&& B = 0
  · rw [decide_eq_true h, Bool.not_true, Bool.false_or]
    have e := @zss_or (zN g0) A B h p
    unfold zZ
    rw [e]
    by_cases hA : zss (zN g0) A p = 0
    · rw [hA, Int32.zero_add]
      by_cases hB : zss (zN g0) B p = 0
      · rw [hB]; decide
      · rw [decide_eq_false hB]; decide
    · rw [decide_eq_false hA]
      rfl
  · rw [decide_eq_false h]
    rfl
theorem zZ_all {n p : Nat} {g0 : zS} (I : zInv n g0) (hp : p ≤ 4) (b1 : g0 4 1 = nI p) : (∀ S, zZ g0 p S = zZ g0 4 S) ∧ zZ g0 4 15 = true ∧ zZ g0 p (2 ^ p - 1) = true := by
  obtain ⟨-, -, -, -, -, s6⟩ := I.2.2.1
  have z0 : ∀ i j, i < 4 → j < 4 → (p ≤ i ∨ p ≤ j) → g0 (34 + 12) (i * 4 + j) = 0 := by
    intro i j hi hj h
    rcases h with h | h
    · have := (s6 i hi (by rw [b1]; exact nI_nlt h (by omega))).2.2.2 j hj
      rw [show i * 4 + j = 4 * i + j by omega]
      exact this.1
    · have := (s6 j hj (by rw [b1]; exact nI_nlt h (by omega))).2.2.2 i hi
      rw [show i * 4 + j = 4 * i + j by omega]
      exact this.2
  have n0 : ∀ i, p ≤ i → i < 4 → zN g0 i = 0 := by
    intro i h hi
    unfold zN
    refine zfo_zero fun j _ hj => ?_
    rw [z0 j i (by omega) hi (Or.inr h), z0 i j hi (by omega) (Or.inl h)]
    rfl
  have e4 : ∀ S, zss (zN g0) S 4 = zss (zN g0) S p := by
    intro S
    have k : ∀ d, p + d ≤ 4 → zss (zN g0) S (p + d) = zss (zN g0) S p := by
      intro d
      induction d with
      | zero => intro _; rfl
      | succ d ih =>
        intro hd
        rw [show p + (d + 1) = p + d + 1 by omega, zss_s, ih (by omega), n0 (p + d) (by omega) (by omega)]
        by_cases q : S.testBit (p + d) = true
        · rw [if_pos q, Int32.add_zero]
        · rw [if_neg q, Int32.add_zero]
    have := k (4 - p) (by omega)
    rw [show p + (4 - p) = 4 by omega] at this
    exact this
  have t15 : zss (zN g0) 15 4 = 0 := by
    have h := zN_sum (g0 (34 + 12))
    have a0 : zN g0 0 = (g0 (34 + 12) 0 - g0 (34 + 12) 0) + (g0 (34 + 12) 4 - g0 (34 + 12) 1) + (g0 (34 + 12) 8 - g0 (34 + 12) 2) + (g0 (34 + 12) 12 - g0 (34 + 12) 3) := by
      show 0 + (g0 (34 + 12) 0 - g0 (34 + 12) 0) + (g0 (34 + 12) 4 - g0 (34 + 12) 1) + (g0 (34 + 12) 8 - g0 (34 + 12) 2) + (g0 (34 + 12) 12 - g0 (34 + 12) 3) = _
      rw [Int32.zero_add]
    have a1 : zN g0 1 = (g0 (34 + 12) 1 - g0 (34 + 12) 4) + (g0 (34 + 12) 5 - g0 (34 + 12) 5) + (g0 (34 + 12) 9 - g0 (34 + 12) 6) + (g0 (34 + 12) 13 - g0 (34 + 12) 7) := by
      show 0 + (g0 (34 + 12) 1 - g0 (34 + 12) 4) + (g0 (34 + 12) 5 - g0 (34 + 12) 5) + (g0 (34 + 12) 9 - g0 (34 + 12) 6) + (g0 (34 + 12) 13 - g0 (34 + 12) 7) = _
      rw [Int32.zero_add]
    have a2 : zN g0 2 = (g0 (34 + 12) 2 - g0 (34 + 12) 8) + (g0 (34 + 12) 6 - g0 (34 + 12) 9) + (g0 (34 + 12) 10 - g0 (34 + 12) 10) + (g0 (34 + 12) 14 - g0 (34 + 12) 11) := by
      show 0 + (g0 (34 + 12) 2 - g0 (34 + 12) 8) + (g0 (34 + 12) 6 - g0 (34 + 12) 9) + (g0 (34 + 12) 10 - g0 (34 + 12) 10) + (g0 (34 + 12) 14 - g0 (34 + 12) 11) = _
      rw [Int32.zero_add]
    have a3 : zN g0 3 = (g0 (34 + 12) 3 - g0 (34 + 12) 12) + (g0 (34 + 12) 7 - g0 (34 + 12) 13) + (g0 (34 + 12) 11 - g0 (34 + 12) 14) + (g0 (34 + 12) 15 - g0 (34 + 12) 15) := by
      show 0 + (g0 (34 + 12) 3 - g0 (34 + 12) 12) + (g0 (34 + 12) 7 - g0 (34 + 12) 13) + (g0 (34 + 12) 11 - g0 (34 + 12) 14) + (g0 (34 + 12) 15 - g0 (34 + 12) 15) = _
      rw [Int32.zero_add]
    show 0 + zN g0 0 + zN g0 1 + zN g0 2 + zN g0 3 = 0
    rw [Int32.zero_add, a0, a1, a2, a3]
    exact h
  have hsum : zss (zN g0) (2 ^ p - 1) 4 = 0 := by
    have c0 : zss (zN g0) (2 ^ p - 1) 4 = zss (zN g0) 15 4 := by
      rw [e4, e4]
      have k : ∀ i, i ≤ p → zss (zN g0) (2 ^ p - 1) i = zss (zN g0) 15 i := by
        intro i
        induction i with
        | zero => intro _; rfl
        | succ i ih =>
          intro hi
          rw [zss_s, zss_s, ih (by omega), Nat.testBit_two_pow_sub_one, decide_eq_true (show i < p by omega), show (15 : Nat) = 2 ^ 4 - 1 from rfl, Nat.testBit_two_pow_sub_one, decide_eq_true (show i < 4 by omega)]
      exact k p (Nat.le_refl _)
    rw [c0]
    exact t15
  refine ⟨fun S => ?_, decide_eq_true t15, ?_⟩
  · unfold zZ
    rw [e4]
  · unfold zZ
    rw [← e4]
    exact decide_eq_true hsum
theorem zZ_f {g0 : zS} (h : zZ g0 4 15 = true) : ∀ S, S < 16 → zZ g0 4 S = zZf (zZ g0 4 1) (zZ g0 4 2) (zZ g0 4 3) (zZ g0 4 4) (zZ g0 4 5) (zZ g0 4 6) (zZ g0 4 7) S := by
  have con := @zZ_con g0 4
  have two : ∀ A B, A < 16 → B < 16 → A &&& B = 0 → A ||| B = 15 → zZ g0 4 A = zZ g0 4 B := by
    intro A B hA hB h1 h2
    have k : ∀ A B, A < 16 → B < 16 → A &&& B = 0 → A ||| B = 15 → zZ g0 4 A = true → zZ g0 4 B = true := by
      intro A B hA hB h1 h2 h3
      have := List.all_eq_true.mp (List.all_eq_true.mp con A (List.mem_range.mpr hA)) B (List.mem_range.mpr hB)
      rw [decide_eq_true h1, h2, h, h3] at this
      revert this
      cases zZ g0 4 B <;> decide
    have k1 := k A B hA hB h1 h2
    have k2 := k B A hB hA (by rw [Nat.and_comm]; exact h1) (by rw [Nat.or_comm]; exact h2)
    revert k1 k2
    cases zZ g0 4 A <;> cases zZ g0 4 B <;> simp
  intro S hS
  have c : S = 0 ∨ S = 1 ∨ S = 2 ∨ S = 3 ∨ S = 4 ∨ S = 5 ∨ S = 6 ∨ S = 7 ∨ S = 8 ∨ S = 9 ∨ S = 10 ∨ S = 11 ∨ S = 12 ∨ S = 13 ∨ S = 14 ∨ S = 15 := by omega
  rcases c with rfl | rfl | rfl | rfl | rfl | rfl | rfl | rfl | rfl | rfl | rfl | rfl | rfl | rfl | rfl | rfl
  · exact decide_eq_true zss_0
  · rfl
  · rfl
  · rfl
  · rfl
  · rfl
  · rfl
  · rfl
  · exact two 8 7 (by decide) (by decide) (by decide) (by decide)
  · exact two 9 6 (by decide) (by decide) (by decide) (by decide)
  · exact two 10 5 (by decide) (by decide) (by decide) (by decide)
  · exact two 11 4 (by decide) (by decide) (by decide) (by decide)
  · exact two 12 3 (by decide) (by decide) (by decide) (by decide)
  · exact two 13 2 (by decide) (by decide) (by decide) (by decide)
  · exact two 14 1 (by decide) (by decide) (by decide) (by decide)
  · exact h
theorem zcq_c {Z Z2 : Nat → Bool} (h : ∀ S, S < 16 → Z S = Z2 S) (c : zcq Z = true) : zcq Z2 = true := by
  refine List.all_eq_true.mpr fun A hA => List.all_eq_true.mpr fun B hB => ?_
  have h1 := List.mem_range.mp hA
  have h2 := List.mem_range.mp hB
  have := List.all_eq_true.mp (List.all_eq_true.mp c A hA) B hB
  rw [h A h1, h B h2, h (A ||| B) (Nat.or_lt_two_pow (n := 4) h1 h2)] at this
  exact this
theorem zp_payments {K : Nat} (hK : 100 ≤ K) (n : Nat) : zPair (zInv n) (zInv (n + 1)) (f140 K) (f228 K) := by
  refine zPair_scr fun g I => ?_
  obtain ⟨p, r, p4, r20, b1, b2, -, -, -⟩ := zpe I
  have hpp : 2 ^ p ≤ 16 := Nat.le_trans (Nat.pow_le_pow_right (by decide) p4) (by decide)
  have hp0 := Nat.two_pow_pos p
  obtain ⟨k1, k2, k3⟩ := zZ_all I p4 b1
  have kf := zZ_f k2
  obtain ⟨d1, d2⟩ := zdp (zZ g 4 1) (zZ g 4 2) (zZ g 4 3) (zZ g 4 4) (zZ g 4 5) (zZ g 4 6) (zZ g 4 7) (zcq_c kf zZ_con) p (by omega) (by rw [← kf _ (by omega), ← k1]; exact k3)
  have eT : zTb (zZ g p) p (2 ^ p - 1) (2 ^ p - 1) = zTb (zZf (zZ g 4 1) (zZ g 4 2) (zZ g 4 3) (zZ g 4 4) (zZ g 4 5) (zZ g 4 6) (zZ g 4 7)) p (2 ^ p - 1) (2 ^ p - 1) := zTb_c (fun x x1 x2 => by rw [k1, kf x (by omega)]) _
  have eR : zRt (zZ g p) 16 (2 ^ p - 1) = zRt (zZf (zZ g 4 1) (zZ g 4 2) (zZ g 4 3) (zZ g 4 4) (zZ g 4 5) (zZ g 4 6) (zZ g 4 7)) 16 (2 ^ p - 1) := zRt_c (fun x x1 x2 => by rw [k1, kf x x2]) _
  refine ⟨nI p - nI (zTb (zZ g p) p (2 ^ p - 1) (2 ^ p - 1)), ?_, fun g1 s1 => ?_⟩
  · have h0 : g 221 0 = 0 := I.2.2.2.2.2.1
    have e : (1 : Int32) <<< (nI p &&& 31) - 1 = nI (2 ^ p - 1) := by
      rw [nx_one (by omega)]
      exact pk_sub (a := 2 ^ p) (b := 1) (by omega)
    obtain ⟨g2, e1, e2⟩ := f141_9_lp (K := K) (p := p) (A := 2 ^ p - 1) (g0 := g) (by omega) p4 (by omega) (2 ^ p - 1) 1 K g (by omega) (by omega) (by omega) zScr_0 (fun x hx => by
      rw [show x = 0 by omega, h0]; rfl)
    refine zR_eq (g := g2) ?_ ⟨rfl, e2⟩
    unfold f140 f141
    rw [b1, e, show f141_9 K K 34 (nI p) (nI (2 ^ p - 1)) 1 g = some (nI p - nI (zTb (zZ g p) p (2 ^ p - 1) (2 ^ p - 1)), g2) from e1, zbd_s]
  · obtain ⟨g2, e1, e2⟩ := f228_lp (K := K) (by omega) I p4 b2 16 0 K g1 (by omega) (by omega) s1 (fun x hx => by omega)
    refine zR_eq (g := g2) ?_ ⟨rfl, e2⟩
    unfold f228
    rw [show f228_2 K K 0 g1 = some (nI (zbc (2 ^ p - 1) 8) - zrw (zRt (zZ g p) 16 (2 ^ p - 1)), g2) from e1, d2, eR, ← d1, eT]
    unfold zrw
    rw [if_neg (by omega)]
    rfl
