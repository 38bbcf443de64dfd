theorem zpr {α : Type} {a b : α} {g h : zS} (e : some (a, g) = some (b, h)) : a = b ∧ g = h := ⟨congrArg Prod.fst (Option.some.inj e), congrArg Prod.snd (Option.some.inj e)⟩
-- java/lang/Integer.bitCount
def f111 (K : Nat) (x0 : Int32) (g : zS) : Option (Int32 × zS) := some (((((((((x0 - ((((x0).toUInt32 >>> ((1 : Int32).toUInt32 &&& Int32.toUInt32 31)).toInt32) &&& 1431655765)) &&& 858993459) + (((((x0 - ((((x0).toUInt32 >>> ((1 : Int32).toUInt32 &&& Int32.toUInt32 31)).toInt32) &&& 1431655765))).toUInt32 >>> ((2 : Int32).toUInt32 &&& Int32.toUInt32 31)).toInt32) &&& 858993459)) + ((((((x0 - ((((x0).toUInt32 >>> ((1 : Int32).toUInt32 &&& Int32.toUInt32 31)).toInt32) &&& 1431655765)) &&& 858993459) + (((((x0 - ((((x0).toUInt32 >>> ((1 : Int32).toUInt32 &&& Int32.toUInt32 31)).toInt32) &&& 1431655765))).toUInt32 >>> ((2 : Int32).toUInt32 &&& Int32.toUInt32 31)).toInt32) &&& 858993459))).toUInt32 >>> ((4 : Int32).toUInt32 &&& Int32.toUInt32 31)).toInt32)) &&& 252645135) + ((((((((x0 - ((((x0).toUInt32 >>> ((1 : Int32).toUInt32 &&& Int32.toUInt32 31)).toInt32) &&& 1431655765)) &&& 858993459) + (((((x0 - ((((x0).toUInt32 >>> ((1 : Int32).toUInt32 &&& Int32.toUInt32 31)).toInt32) &&& 1431655765))).toUInt32 >>> ((2 : Int32).toUInt32 &&& Int32.toUInt32 31)).toInt32) &&& 858993459)) + ((((((x0 - ((((x0).toUInt32 >>> ((1 : Int32).toUInt32 &&& Int32.toUInt32 31)).toInt32) &&& 1431655765)) &&& 858993459) + (((((x0 - ((((x0).toUInt32 >>> ((1 : Int32).toUInt32 &&& Int32.toUInt32 31)).toInt32) &&& 1431655765))).toUInt32 >>> ((2 : Int32).toUInt32 &&& Int32.toUInt32 31)).toInt32) &&& 858993459))).toUInt32 >>> ((4 : Int32).toUInt32 &&& Int32.toUInt32 31)).toInt32)) &&& 252645135)).toUInt32 >>> ((8 : Int32).toUInt32 &&& Int32.toUInt32 31)).toInt32)) + (((((((((x0 - ((((x0).toUInt32 >>> ((1 : Int32).toUInt32 &&& Int32.toUInt32 31)).toInt32) &&& 1431655765)) &&& 858993459) + (((((x0 - ((((x0).toUInt32 >>> ((1 : Int32).toUInt32 &&& Int32.toUInt32 31)).toInt32) &&& 1431655765))).toUInt32 >>> ((2 : Int32).toUInt32 &&& Int32.toUInt32 31)).toInt32) &&& 858993459)) + ((((((x0 - ((((x0).toUInt32 >>> ((1 : Int32).toUInt32 &&& Int32.toUInt32 31)).toInt32) &&& 1431655765)) &&& 858993459) + (((((x0 - ((((x0).toUInt32 >>> ((1 : Int32).toUInt32 &&& Int32.toUInt32 31)).toInt32) &&& 1431655765))).toUInt32 >>> ((2 : Int32).toUInt32 &&& Int32.toUInt32 31)).toInt32) &&& 858993459))).toUInt32 >>> ((4 : Int32).toUInt32 &&& Int32.toUInt32 31)).toInt32)) &&& 252645135) + ((((((((x0 - ((((x0).toUInt32 >>> ((1 : Int32).toUInt32 &&& Int32.toUInt32 31)).toInt32) &&& 1431655765)) &&& 858993459) + (((((x0 - ((((x0).toUInt32 >>> ((1 : Int32).toUInt32 &&& Int32.toUInt32 31)).toInt32) &&& 1431655765))).toUInt32 >>> ((2 : Int32).toUInt32 &&& Int32.toUInt32 31)).toInt32) &&& 858993459)) + ((((((x0 - ((((x0).toUInt32 >>> ((1 : Int32).toUInt32 &&& Int32.toUInt32 31)).toInt32) &&& 1431655765)) &&& 858993459) + (((((x0 - ((((x0).toUInt32 >>> ((1 : Int32).toUInt32 &&& Int32.toUInt32 31)).toInt32) &&& 1431655765))).toUInt32 >>> ((2 : Int32).toUInt32 &&& Int32.toUInt32 31)).toInt32) &&& 858993459))).toUInt32 >>> ((4 : Int32).toUInt32 &&& Int32.toUInt32 31)).toInt32)) &&& 252645135)).toUInt32 >>> ((8 : Int32).toUInt32 &&& Int32.toUInt32 31)).toInt32))).toUInt32 >>> ((16 : Int32).toUInt32 &&& Int32.toUInt32 31)).toInt32)) &&& 63), g)
theorem F111 {L : Nat} {xs : Nat → Int32} (K : Nat) (x0 : Int32) (g : zS) (r : Int32) (g' : zS) (hE : f111 K x0 g = some (r, g')) (d : Nat) : zE2 L xs (d + 1) 111 [.int x0] g (some (.int r)) g' := by
  refine y_ev (n := 0) (d := d + 0) (ls := [some (.int x0)]) zm111_get (by decide) (Nat.le_of_ble_eq_true rfl) rfl ?_
  unfold f111 at hE
  refine y_iload_n k111_0 rfl ?_
  refine y_iload_n k111_1 rfl ?_
  refine y_iconst (v := 1) k111_2 oi_1 ?_
  refine y_iushr k111_3 ?_
  refine y_ldcw (v := 1431655765) k111_4 ci_12_265 ?_
  refine y_iand k111_7 ?_
  refine y_isub k111_8 ?_
  refine y_istore_n (ls2 := [some (.int (x0 - ((((x0).toUInt32 >>> ((1 : Int32).toUInt32 &&& Int32.toUInt32 31)).toInt32) &&& 1431655765)))]) k111_9 rfl (Nat.le_of_ble_eq_true rfl) rfl ?_
  refine y_iload_n k111_10 rfl ?_
  refine y_ldcw (v := 858993459) k111_11 ci_12_266 ?_
  refine y_iand k111_14 ?_
  refine y_iload_n k111_15 rfl ?_
  refine y_iconst (v := 2) k111_16 oi_2 ?_
  refine y_iushr k111_17 ?_
  refine y_ldcw (v := 858993459) k111_18 ci_12_266 ?_
  refine y_iand k111_21 ?_
  refine y_iadd k111_22 ?_
  refine y_istore_n (ls2 := [some (.int (((x0 - ((((x0).toUInt32 >>> ((1 : Int32).toUInt32 &&& Int32.toUInt32 31)).toInt32) &&& 1431655765)) &&& 858993459) + (((((x0 - ((((x0).toUInt32 >>> ((1 : Int32).toUInt32 &&& Int32.toUInt32 31)).toInt32) &&& 1431655765))).toUInt32 >>> ((2 : Int32).toUInt32 &&& Int32.toUInt32 31)).toInt32) &&& 858993459)))]) k111_23 rfl (Nat.le_of_ble_eq_true rfl) rfl ?_
  refine y_iload_n k111_24 rfl ?_
  refine y_iload_n k111_25 rfl ?_
  refine y_iconst (v := 4) k111_26 oi_4 ?_
  refine y_iushr k111_27 ?_
  refine y_iadd k111_28 ?_
  refine y_ldcw (v := 252645135) k111_29 ci_12_267 ?_
  refine y_iand k111_32 ?_
  refine y_istore_n (ls2 := [some (.int (((((x0 - ((((x0).toUInt32 >>> ((1 : Int32).toUInt32 &&& Int32.toUInt32 31)).toInt32) &&& 1431655765)) &&& 858993459) + (((((x0 - ((((x0).toUInt32 >>> ((1 : Int32).toUInt32 &&& Int32.toUInt32 31)).toInt32) &&& 1431655765))).toUInt32 >>> ((2 : Int32).toUInt32 &&& Int32.toUInt32 31)).toInt32) &&& 858993459)) + ((((((x0 - ((((x0).toUInt32 >>> ((1 : Int32).toUInt32 &&& Int32.toUInt32 31)).toInt32) &&& 1431655765)) &&& 858993459) + (((((x0 - ((((x0).toUInt32 >>> ((1 : Int32).toUInt32 &&& Int32.toUInt32 31)).toInt32) &&& 1431655765))).toUInt32 >>> ((2 : Int32).toUInt32 &&& Int32.toUInt32 31)).toInt32) &&& 858993459))).toUInt32 >>> ((4 : Int32).toUInt32 &&& Int32.toUInt32 31)).toInt32)) &&& 252645135))]) k111_33 rfl (Nat.le_of_ble_eq_true rfl) rfl ?_
  refine y_iload_n k111_34 rfl ?_
  refine y_iload_n k111_35 rfl ?_
  refine y_bipush (v := 8) k111_36 b8_8 ?_
  refine y_iushr k111_38 ?_
  refine y_iadd k111_39 ?_
  refine y_istore_n (ls2 := [some (.int ((((((x0 - ((((x0).toUInt32 >>> ((1 : Int32).toUInt32 &&& Int32.toUInt32 31)).toInt32) &&& 1431655765)) &&& 858993459) + (((((x0 - ((((x0).toUInt32 >>> ((1 : Int32).toUInt32 &&& Int32.toUInt32 31)).toInt32) &&& 1431655765))).toUInt32 >>> ((2 : Int32).toUInt32 &&& Int32.toUInt32 31)).toInt32) &&& 858993459)) + ((((((x0 - ((((x0).toUInt32 >>> ((1 : Int32).toUInt32 &&& Int32.toUInt32 31)).toInt32) &&& 1431655765)) &&& 858993459) + (((((x0 - ((((x0).toUInt32 >>> ((1 : Int32).toUInt32 &&& Int32.toUInt32 31)).toInt32) &&& 1431655765))).toUInt32 >>> ((2 : Int32).toUInt32 &&& Int32.toUInt32 31)).toInt32) &&& 858993459))).toUInt32 >>> ((4 : Int32).toUInt32 &&& Int32.toUInt32 31)).toInt32)) &&& 252645135) + ((((((((x0 - ((((x0).toUInt32 >>> ((1 : Int32).toUInt32 &&& Int32.toUInt32 31)).toInt32) &&& 1431655765)) &&& 858993459) + (((((x0 - ((((x0).toUInt32 >>> ((1 : Int32).toUInt32 &&& Int32.toUInt32 31)).toInt32) &&& 1431655765))).toUInt32 >>> ((2 : Int32).toUInt32 &&& Int32.toUInt32 31)).toInt32) &&& 858993459)) + ((((((x0 - ((((x0).toUInt32 >>> ((1 : Int32).toUInt32 &&& Int32.toUInt32 31)).toInt32) &&& 1431655765)) &&& 858993459) + (((((x0 - ((((x0).toUInt32 >>> ((1 : Int32).toUInt32 &&& Int32.toUInt32 31)).toInt32) &&& 1431655765))).toUInt32 >>> ((2 : Int32).toUInt32 &&& Int32.toUInt32 31)).toInt32) &&& 858993459))).toUInt32 >>> ((4 : Int32).toUInt32 &&& Int32.toUInt32 31)).toInt32)) &&& 252645135)).toUInt32 >>> ((8 : Int32).toUInt32 &&& Int32.toUInt32 31)).toInt32)))]) k111_40 rfl (Nat.le_of_ble_eq_true rfl) rfl ?_
  refine y_iload_n k111_41 rfl ?_
  refine y_iload_n k111_42 rfl ?_
  refine y_bipush (v := 16) k111_43 b8_16 ?_
  refine y_iushr k111_45 ?_
  refine y_iadd k111_46 ?_
  refine y_istore_n (ls2 := [some (.int (((((((x0 - ((((x0).toUInt32 >>> ((1 : Int32).toUInt32 &&& Int32.toUInt32 31)).toInt32) &&& 1431655765)) &&& 858993459) + (((((x0 - ((((x0).toUInt32 >>> ((1 : Int32).toUInt32 &&& Int32.toUInt32 31)).toInt32) &&& 1431655765))).toUInt32 >>> ((2 : Int32).toUInt32 &&& Int32.toUInt32 31)).toInt32) &&& 858993459)) + ((((((x0 - ((((x0).toUInt32 >>> ((1 : Int32).toUInt32 &&& Int32.toUInt32 31)).toInt32) &&& 1431655765)) &&& 858993459) + (((((x0 - ((((x0).toUInt32 >>> ((1 : Int32).toUInt32 &&& Int32.toUInt32 31)).toInt32) &&& 1431655765))).toUInt32 >>> ((2 : Int32).toUInt32 &&& Int32.toUInt32 31)).toInt32) &&& 858993459))).toUInt32 >>> ((4 : Int32).toUInt32 &&& Int32.toUInt32 31)).toInt32)) &&& 252645135) + ((((((((x0 - ((((x0).toUInt32 >>> ((1 : Int32).toUInt32 &&& Int32.toUInt32 31)).toInt32) &&& 1431655765)) &&& 858993459) + (((((x0 - ((((x0).toUInt32 >>> ((1 : Int32).toUInt32 &&& Int32.toUInt32 31)).toInt32) &&& 1431655765))).toUInt32 >>> ((2 : Int32).toUInt32 &&& Int32.toUInt32 31)).toInt32) &&& 858993459)) + ((((((x0 - ((((x0).toUInt32 >>> ((1 : Int32).toUInt32 &&& Int32.toUInt32 31)).toInt32) &&& 1431655765)) &&& 858993459) + (((((x0 - ((((x0).toUInt32 >>> ((1 : Int32).toUInt32 &&& Int32.toUInt32 31)).toInt32) &&& 1431655765))).toUInt32 >>> ((2 : Int32).toUInt32 &&& Int32.toUInt32 31)).toInt32) &&& 858993459))).toUInt32 >>> ((4 : Int32).toUInt32 &&& Int32.toUInt32 31)).toInt32)) &&& 252645135)).toUInt32 >>> ((8 : Int32).toUInt32 &&& Int32.toUInt32 31)).toInt32)) + (((((((((x0 - ((((x0).toUInt32 >>> ((1 : Int32).toUInt32 &&& Int32.toUInt32 31)).toInt32) &&& 1431655765)) &&& 858993459) + (((((x0 - ((((x0).toUInt32 >>> ((1 : Int32).toUInt32 &&& Int32.toUInt32 31)).toInt32) &&& 1431655765))).toUInt32 >>> ((2 : Int32).toUInt32 &&& Int32.toUInt32 31)).toInt32) &&& 858993459)) + ((((((x0 - ((((x0).toUInt32 >>> ((1 : Int32).toUInt32 &&& Int32.toUInt32 31)).toInt32) &&& 1431655765)) &&& 858993459) + (((((x0 - ((((x0).toUInt32 >>> ((1 : Int32).toUInt32 &&& Int32.toUInt32 31)).toInt32) &&& 1431655765))).toUInt32 >>> ((2 : Int32).toUInt32 &&& Int32.toUInt32 31)).toInt32) &&& 858993459))).toUInt32 >>> ((4 : Int32).toUInt32 &&& Int32.toUInt32 31)).toInt32)) &&& 252645135) + ((((((((x0 - ((((x0).toUInt32 >>> ((1 : Int32).toUInt32 &&& Int32.toUInt32 31)).toInt32) &&& 1431655765)) &&& 858993459) + (((((x0 - ((((x0).toUInt32 >>> ((1 : Int32).toUInt32 &&& Int32.toUInt32 31)).toInt32) &&& 1431655765))).toUInt32 >>> ((2 : Int32).toUInt32 &&& Int32.toUInt32 31)).toInt32) &&& 858993459)) + ((((((x0 - ((((x0).toUInt32 >>> ((1 : Int32).toUInt32 &&& Int32.toUInt32 31)).toInt32) &&& 1431655765)) &&& 858993459) + (((((x0 - ((((x0).toUInt32 >>> ((1 : Int32).toUInt32 &&& Int32.toUInt32 31)).toInt32) &&& 1431655765))).toUInt32 >>> ((2 : Int32).toUInt32 &&& Int32.toUInt32 31)).toInt32) &&& 858993459))).toUInt32 >>> ((4 : Int32).toUInt32 &&& Int32.toUInt32 31)).toInt32)) &&& 252645135)).toUInt32 >>> ((8 : Int32).toUInt32 &&& Int32.toUInt32 31)).toInt32))).toUInt32 >>> ((16 : Int32).toUInt32 &&& Int32.toUInt32 31)).toInt32)))]) k111_47 rfl (Nat.le_of_ble_eq_true rfl) rfl ?_
  refine y_iload_n k111_48 rfl ?_
  refine y_bipush (v := 63) k111_49 b8_63 ?_
  refine y_iand k111_51 ?_
  obtain ⟨rfl, rfl⟩ := zpr hE
  exact y_iret k111_52 rfl
-- AdjectiveCoupons.isWithin
def f12 (K : Nat) (x0 : Int32) (x1 : Int32) (x2 : Int32) (g : zS) : Option (Int32 × zS) := if x0 < x1 then some (0, g) else if x2 < x0 then some (0, g) else (some (1, g))
theorem F12 {L : Nat} {xs : Nat → Int32} (K : Nat) (x0 : Int32) (x1 : Int32) (x2 : Int32) (g : zS) (r : Int32) (g' : zS) (hE : f12 K x0 x1 x2 g = some (r, g')) (d : Nat) : zE2 L xs (d + 1) 12 [.int x0, .int x1, .int x2] g (some (.int r)) g' := by
  refine y_ev (n := 0) (d := d + 0) (ls := [some (.int x0), some (.int x1), some (.int x2)]) zm12_get (by decide) (Nat.le_of_ble_eq_true rfl) rfl ?_
  unfold f12 at hE
  refine y_iload_n k12_0 rfl ?_
  refine y_iload_n k12_1 rfl ?_
  by_cases c104 : x0 < x1
  · rw [if_pos c104] at hE
    refine y_icT (tgt := 14) k12_2 (by decide) c104 ?_
    refine y_iconst (v := 0) k12_14 oi_0 ?_
    obtain ⟨rfl, rfl⟩ := zpr hE
    exact y_zret k12_15 rfl (by decide)
  · rw [if_neg c104] at hE
    refine y_icF 14 k12_2 (by decide) c104 ?_
    refine y_iload_n k12_5 rfl ?_
    refine y_iload_n k12_6 rfl ?_
    by_cases c103 : x2 < x0
    · rw [if_pos c103] at hE
      refine y_icT (tgt := 14) k12_7 (by decide) c103 ?_
      refine y_iconst (v := 0) k12_14 oi_0 ?_
      obtain ⟨rfl, rfl⟩ := zpr hE
      exact y_zret k12_15 rfl (by decide)
    · rw [if_neg c103] at hE
      refine y_icF 14 k12_7 (by decide) c103 ?_
      refine y_iconst (v := 1) k12_10 oi_1 ?_
      refine y_goto (tgt := 15) k12_11 (by decide) ?_
      obtain ⟨rfl, rfl⟩ := zpr hE
      exact y_zret k12_15 rfl (by decide)
-- AdjectiveCoupons$Row.set
def f14 (K : Nat) (o0 : Nat) (x1 : Int32) (x2 : Int32) (g : zS) : Option (Unit × zS) := if x1 < 0 then some ((), g) else if (nI (zlen (o0 + 1))) ≤ x1 then some ((), g) else if zin x1 (zlen (o0 + 1)) then some ((), (zup g (o0 + 1) x1.toNatClampNeg x2)) else none
theorem F14 {L : Nat} {xs : Nat → Int32} (K : Nat) (o0 : Nat) (x1 : Int32) (x2 : Int32) (h0 : zRow o0) (g : zS) (r : Unit) (g' : zS) (hE : f14 K o0 x1 x2 g = some (r, g')) (d : Nat) : zE2 L xs (d + 1) 14 [.ref o0, .int x1, .int x2] g none g' := by
  refine y_ev (n := 0) (d := d + 0) (ls := [some (.ref o0), some (.int x1), some (.int x2)]) zm14_get (by decide) (Nat.le_of_ble_eq_true rfl) rfl ?_
  unfold f14 at hE
  refine y_iload_n k14_0 rfl ?_
  by_cases c104 : x1 < 0
  · rw [if_pos c104] at hE
    refine y_ifT (tgt := 20) k14_1 (by decide) c104 ?_
    obtain ⟨rfl, rfl⟩ := zpr hE
    exact y_vret k14_20 rfl
  · rw [if_neg c104] at hE
    refine y_ifF 20 k14_1 (by decide) c104 ?_
    refine y_iload_n k14_4 rfl ?_
    refine y_aload_n k14_5 rfl rfl ?_
    refine y_getR k14_6 fk_2_7 h0.1 rfl ?_
    refine y_alenA k14_9 h0.2 ?_
    by_cases c103 : (nI (zlen (o0 + 1))) ≤ x1
    · rw [if_pos c103] at hE
      refine y_icT (tgt := 20) k14_10 (by decide) c103 ?_
      obtain ⟨rfl, rfl⟩ := zpr hE
      exact y_vret k14_20 rfl
    · rw [if_neg c103] at hE
      refine y_icF 20 k14_10 (by decide) c103 ?_
      refine y_aload_n k14_13 rfl rfl ?_
      refine y_getR k14_14 fk_2_7 h0.1 rfl ?_
      refine y_iload_n k14_17 rfl ?_
      refine y_iload_n k14_18 rfl ?_
      obtain ⟨hc, hE⟩ := zif_some hE
      refine y_iast k14_19 h0.2 hc ?_
      obtain ⟨rfl, rfl⟩ := zpr hE
      exact y_vret k14_20 rfl
-- AdjectiveCoupons.erase
def f15 (K : Nat) (g : zS) : Option (Int32 × zS) := some ((g 1 1), (zup g 1 1 0))
theorem F15 {L : Nat} {xs : Nat → Int32} (K : Nat) (g : zS) (r : Int32) (g' : zS) (hE : f15 K  g = some (r, g')) (d : Nat) : zE2 L xs (d + 1) 15 [.ref 0] g (some (.int r)) g' := by
  refine y_ev (n := 0) (d := d + 0) (ls := [some (.ref 0), none]) zm15_get (by decide) (Nat.le_of_ble_eq_true rfl) rfl ?_
  unfold f15 at hE
  refine y_aload_n k15_0 rfl rfl ?_
  refine y_getR k15_1 fk_0_10 sh0 rfl ?_
  refine y_getI k15_4 fk_0_76 sh1 rfl ?_
  refine y_istore_n (ls2 := [some (.ref 0), some (.int (g 1 1))]) k15_7 rfl (Nat.le_of_ble_eq_true rfl) rfl ?_
  refine y_aload_n k15_8 rfl rfl ?_
  refine y_getR k15_9 fk_0_10 sh0 rfl ?_
  refine y_iconst (v := 0) k15_12 oi_0 ?_
  refine y_putI k15_13 fk_0_76 sh1 rfl pi_1_1.1 pi_1_1.2 ?_
  refine y_iload_n k15_16 rfl ?_
  obtain ⟨rfl, rfl⟩ := zpr hE
  exact y_iret k15_17 rfl
-- AdjectiveCoupons$Row.become
def f18_2 (K : Nat) : Nat → Nat → Nat → Int32 → zS → Option (Unit × zS)
  | 0, _, _, _, _ => none
  | n + 1, o0, o1, x2, g => if (nI (zlen (o0 + 1))) ≤ x2 then some ((), g) else if (nI (zlen (o1 + 1))) ≤ x2 then some ((), g) else if zin x2 (zlen (o1 + 1)) then if zin x2 (zlen (o0 + 1)) then (f18_2 K n) o0 o1 (x2 + 1) (zup g (o0 + 1) x2.toNatClampNeg (g (o1 + 1) x2.toNatClampNeg)) else none else none
def f18 (K : Nat) (o0 : Nat) (o1 : Nat) (g : zS) : Option (Unit × zS) := f18_2 K K o0 o1 0 g
theorem F18_2 {L : Nat} {xs : Nat → Int32} {d : Nat} (K : Nat) : ∀ (n : Nat) (o0 : Nat) (o1 : Nat) (x2 : Int32) (h0 : zRow o0) (h1 : zRow o1) (g : zS) (r : Unit) (g' : zS) (hE : f18_2 K n o0 o1 x2 g = some (r, g')), zG2 L xs (d + 0) zm18 2 [some (.ref o0), some (.ref o1), some (.int x2)] [] g none g' := by
  intro n
  induction n with
  | zero => intro o0 o1 x2 h0 h1 g r g' hE; cases hE
  | succ n ih =>
    intro o0 o1 x2 h0 h1 g r g' hE
    rw [f18_2] at hE
    refine y_iload_n k18_2 rfl ?_
    refine y_aload_n k18_3 rfl rfl ?_
    refine y_getR k18_4 fk_2_7 h0.1 rfl ?_
    refine y_alenA k18_7 h0.2 ?_
    by_cases c108 : (nI (zlen (o0 + 1))) ≤ x2
    · rw [if_pos c108] at hE
      refine y_icT (tgt := 38) k18_8 (by decide) c108 ?_
      obtain ⟨rfl, rfl⟩ := zpr hE
      exact y_vret k18_38 rfl
    · rw [if_neg c108] at hE
      refine y_icF 38 k18_8 (by decide) c108 ?_
      refine y_iload_n k18_11 rfl ?_
      refine y_aload_n k18_12 rfl rfl ?_
      refine y_getR k18_13 fk_2_7 h1.1 rfl ?_
      refine y_alenA k18_16 h1.2 ?_
      by_cases c107 : (nI (zlen (o1 + 1))) ≤ x2
      · rw [if_pos c107] at hE
        refine y_icT (tgt := 38) k18_17 (by decide) c107 ?_
        obtain ⟨rfl, rfl⟩ := zpr hE
        exact y_vret k18_38 rfl
      · rw [if_neg c107] at hE
        refine y_icF 38 k18_17 (by decide) c107 ?_
        refine y_aload_n k18_20 rfl rfl ?_
        refine y_getR k18_21 fk_2_7 h0.1 rfl ?_
        refine y_iload_n k18_24 rfl ?_
        refine y_aload_n k18_25 rfl rfl ?_
        refine y_getR k18_26 fk_2_7 h1.1 rfl ?_
        refine y_iload_n k18_29 rfl ?_
        obtain ⟨hc, hE⟩ := zif_some hE
        refine y_iald k18_30 h1.2 hc ?_
        obtain ⟨hc, hE⟩ := zif_some hE
        refine y_iast k18_31 h0.2 hc ?_
        refine y_iinc (v := (x2 + 1)) (ls2 := [some (.ref o0), some (.ref o1), some (.int (x2 + 1))]) k18_32 rfl rfl (by rw [oi_1]) rfl ?_
        refine y_goto (tgt := 2) k18_35 (by decide) ?_
        exact ih o0 o1 (x2 + 1) h0 h1 _ _ _ hE
theorem F18 {L : Nat} {xs : Nat → Int32} (K : Nat) (o0 : Nat) (o1 : Nat) (h0 : zRow o0) (h1 : zRow o1) (g : zS) (r : Unit) (g' : zS) (hE : f18 K o0 o1 g = some (r, g')) (d : Nat) : zE2 L xs (d + 1) 18 [.ref o0, .ref o1] g none g' := by
  refine y_ev (n := 0) (d := d + 0) (ls := [some (.ref o0), some (.ref o1), none]) zm18_get (by decide) (Nat.le_of_ble_eq_true rfl) rfl ?_
  unfold f18 at hE
  refine y_iconst (v := 0) k18_0 oi_0 ?_
  refine y_istore_n (ls2 := [some (.ref o0), some (.ref o1), some (.int 0)]) k18_1 rfl (Nat.le_of_ble_eq_true rfl) rfl ?_
  exact F18_2 K K o0 o1 0 h0 h1 _ _ _ hE
-- AdjectiveCoupons$Row.at
def f21 (K : Nat) (o0 : Nat) (x1 : Int32) (g : zS) : Option (Int32 × zS) := if x1 < 0 then some (0, g) else if (nI (zlen (o0 + 1))) ≤ x1 then some (0, g) else if zin x1 (zlen (o0 + 1)) then some ((g (o0 + 1) x1.toNatClampNeg), g) else none
theorem F21 {L : Nat} {xs : Nat → Int32} (K : Nat) (o0 : Nat) (x1 : Int32) (h0 : zRow o0) (g : zS) (r : Int32) (g' : zS) (hE : f21 K o0 x1 g = some (r, g')) (d : Nat) : zE2 L xs (d + 1) 21 [.ref o0, .int x1] g (some (.int r)) g' := by
  refine y_ev (n := 0) (d := d + 0) (ls := [some (.ref o0), some (.int x1)]) zm21_get (by decide) (Nat.le_of_ble_eq_true rfl) rfl ?_
  unfold f21 at hE
  refine y_iload_n k21_0 rfl ?_
  by_cases c104 : x1 < 0
  · rw [if_pos c104] at hE
    refine y_ifT (tgt := 22) k21_1 (by decide) c104 ?_
    refine y_iconst (v := 0) k21_22 oi_0 ?_
    obtain ⟨rfl, rfl⟩ := zpr hE
    exact y_iret k21_23 rfl
  · rw [if_neg c104] at hE
    refine y_ifF 22 k21_1 (by decide) c104 ?_
    refine y_iload_n k21_4 rfl ?_
    refine y_aload_n k21_5 rfl rfl ?_
    refine y_getR k21_6 fk_2_7 h0.1 rfl ?_
    refine y_alenA k21_9 h0.2 ?_
    by_cases c103 : (nI (zlen (o0 + 1))) ≤ x1
    · rw [if_pos c103] at hE
      refine y_icT (tgt := 22) k21_10 (by decide) c103 ?_
      refine y_iconst (v := 0) k21_22 oi_0 ?_
      obtain ⟨rfl, rfl⟩ := zpr hE
      exact y_iret k21_23 rfl
    · rw [if_neg c103] at hE
      refine y_icF 22 k21_10 (by decide) c103 ?_
      refine y_aload_n k21_13 rfl rfl ?_
      refine y_getR k21_14 fk_2_7 h0.1 rfl ?_
      refine y_iload_n k21_17 rfl ?_
      obtain ⟨hc, hE⟩ := zif_some hE
      refine y_iald k21_18 h0.2 hc ?_
      refine y_goto (tgt := 23) k21_19 (by decide) ?_
      obtain ⟨rfl, rfl⟩ := zpr hE
      exact y_iret k21_23 rfl
-- AdjectiveCoupons$Told.forgetAll
def f42 (K : Nat) (o0 : Nat) (g : zS) : Option (Unit × zS) := some ((), (zup (zup (zup (zup (zup g o0 0 0) o0 1 0) o0 2 0) o0 3 9) o0 4 0))
theorem F42 {L : Nat} {xs : Nat → Int32} (K : Nat) (o0 : Nat) (h0 : zTold o0) (g : zS) (r : Unit) (g' : zS) (hE : f42 K o0 g = some (r, g')) (d : Nat) : zE2 L xs (d + 1) 42 [.ref o0] g none g' := by
  refine y_ev (n := 0) (d := d + 0) (ls := [some (.ref o0)]) zm42_get (by decide) (Nat.le_of_ble_eq_true rfl) rfl ?_
  unfold f42 at hE
  refine y_aload_n k42_0 rfl rfl ?_
  refine y_iconst (v := 0) k42_1 oi_0 ?_
  refine y_putI k42_2 fk_3_42 h0.1 rfl pi_3_0.1 pi_3_0.2 ?_
  refine y_aload_n k42_5 rfl rfl ?_
  refine y_iconst (v := 0) k42_6 oi_0 ?_
  refine y_putI k42_7 fk_3_45 h0.1 rfl pi_3_1.1 pi_3_1.2 ?_
  refine y_aload_n k42_10 rfl rfl ?_
  refine y_iconst (v := 0) k42_11 oi_0 ?_
  refine y_putI k42_12 fk_3_48 h0.1 rfl pi_3_2.1 pi_3_2.2 ?_
  refine y_aload_n k42_15 rfl rfl ?_
  refine y_bipush (v := 9) k42_16 b8_9 ?_
  refine y_putI k42_18 fk_3_9 h0.1 rfl pi_3_3.1 pi_3_3.2 ?_
  refine y_aload_n k42_21 rfl rfl ?_
  refine y_iconst (v := 0) k42_22 oi_0 ?_
  refine y_putI k42_23 fk_3_51 h0.1 rfl pi_3_4.1 pi_3_4.2 ?_
  obtain ⟨rfl, rfl⟩ := zpr hE
  exact y_vret k42_26 rfl
-- AdjectiveCoupons$Row.clear
def f45_2 (K : Nat) : Nat → Nat → Int32 → zS → Option (Unit × zS)
  | 0, _, _, _ => none
  | n + 1, o0, x1, g => if (nI (zlen (o0 + 1))) ≤ x1 then some ((), g) else if zin x1 (zlen (o0 + 1)) then (f45_2 K n) o0 (x1 + 1) (zup g (o0 + 1) x1.toNatClampNeg 0) else none
def f45 (K : Nat) (o0 : Nat) (g : zS) : Option (Unit × zS) := f45_2 K K o0 0 g
theorem F45_2 {L : Nat} {xs : Nat → Int32} {d : Nat} (K : Nat) : ∀ (n : Nat) (o0 : Nat) (x1 : Int32) (h0 : zRow o0) (g : zS) (r : Unit) (g' : zS) (hE : f45_2 K n o0 x1 g = some (r, g')), zG2 L xs (d + 0) zm45 2 [some (.ref o0), some (.int x1)] [] g none g' := by
  intro n
  induction n with
  | zero => intro o0 x1 h0 g r g' hE; cases hE
  | succ n ih =>
    intro o0 x1 h0 g r g' hE
    rw [f45_2] at hE
    refine y_iload_n k45_2 rfl ?_
    refine y_aload_n k45_3 rfl rfl ?_
    refine y_getR k45_4 fk_2_7 h0.1 rfl ?_
    refine y_alenA k45_7 h0.2 ?_
    by_cases c104 : (nI (zlen (o0 + 1))) ≤ x1
    · rw [if_pos c104] at hE
      refine y_icT (tgt := 24) k45_8 (by decide) c104 ?_
      obtain ⟨rfl, rfl⟩ := zpr hE
      exact y_vret k45_24 rfl
    · rw [if_neg c104] at hE
      refine y_icF 24 k45_8 (by decide) c104 ?_
      refine y_aload_n k45_11 rfl rfl ?_
      refine y_getR k45_12 fk_2_7 h0.1 rfl ?_
      refine y_iload_n k45_15 rfl ?_
      refine y_iconst (v := 0) k45_16 oi_0 ?_
      obtain ⟨hc, hE⟩ := zif_some hE
      refine y_iast k45_17 h0.2 hc ?_
      refine y_iinc (v := (x1 + 1)) (ls2 := [some (.ref o0), some (.int (x1 + 1))]) k45_18 rfl rfl (by rw [oi_1]) rfl ?_
      refine y_goto (tgt := 2) k45_21 (by decide) ?_
      exact ih o0 (x1 + 1) h0 _ _ _ hE
theorem F45 {L : Nat} {xs : Nat → Int32} (K : Nat) (o0 : Nat) (h0 : zRow o0) (g : zS) (r : Unit) (g' : zS) (hE : f45 K o0 g = some (r, g')) (d : Nat) : zE2 L xs (d + 1) 45 [.ref o0] g none g' := by
  refine y_ev (n := 0) (d := d + 0) (ls := [some (.ref o0), none]) zm45_get (by decide) (Nat.le_of_ble_eq_true rfl) rfl ?_
  unfold f45 at hE
  refine y_iconst (v := 0) k45_0 oi_0 ?_
  refine y_istore_n (ls2 := [some (.ref o0), some (.int 0)]) k45_1 rfl (Nat.le_of_ble_eq_true rfl) rfl ?_
  exact F45_2 K K o0 0 h0 _ _ _ hE
-- AdjectiveCoupons$Past.forgetAll
def f46 (K : Nat) (g : zS) : Option (Unit × zS) := some ((), (zup (zup g 47 3 0) 47 4 0))
theorem F46 {L : Nat} {xs : Nat → Int32} (K : Nat) (g : zS) (r : Unit) (g' : zS) (hE : f46 K  g = some (r, g')) (d : Nat) : zE2 L xs (d + 1) 46 [.ref 47] g none g' := by
  refine y_ev (n := 0) (d := d + 0) (ls := [some (.ref 47)]) zm46_get (by decide) (Nat.le_of_ble_eq_true rfl) rfl ?_
  unfold f46 at hE
  refine y_aload_n k46_0 rfl rfl ?_
  refine y_iconst (v := 0) k46_1 oi_0 ?_
  refine y_putI k46_2 fk_5_21 sh47 rfl pi_5_3.1 pi_5_3.2 ?_
  refine y_aload_n k46_5 rfl rfl ?_
  refine y_iconst (v := 0) k46_6 oi_0 ?_
  refine y_putI k46_7 fk_5_25 sh47 rfl pi_5_4.1 pi_5_4.2 ?_
  obtain ⟨rfl, rfl⟩ := zpr hE
  exact y_vret k46_10 rfl
-- AdjectiveCoupons.isSuch
def f57 (K : Nat) (x0 : Int32) (x1 : Int32) (g : zS) : Option (Int32 × zS) := if x1 = 0 then some (1, g) else if x1 = 1 then if x0 = 0 then some (1, g) else if ¬ x0 = 1 then some (0, g) else (some (1, g)) else if x1 = 2 then if ¬ x0 = 1 then some (0, g) else (some (1, g)) else if x1 = 3 then if x0 = 2 then some (1, g) else if ¬ x0 = 3 then some (0, g) else (some (1, g)) else if ¬ x1 = 4 then some (0, g) else if ¬ x0 = 3 then some (0, g) else (some (1, g))
theorem F57 {L : Nat} {xs : Nat → Int32} (K : Nat) (x0 : Int32) (x1 : Int32) (g : zS) (r : Int32) (g' : zS) (hE : f57 K x0 x1 g = some (r, g')) (d : Nat) : zE2 L xs (d + 1) 57 [.int x0, .int x1] g (some (.int r)) g' := by
  refine y_ev (n := 0) (d := d + 0) (ls := [some (.int x0), some (.int x1)]) zm57_get (by decide) (Nat.le_of_ble_eq_true rfl) rfl ?_
  unfold f57 at hE
  refine y_iload_n k57_0 rfl ?_
  by_cases c112 : x1 = 0
  · rw [if_pos c112] at hE
    refine y_tsw (tgt := 32) (off := 31) 0 k57_1 c112 (by decide) (by decide) (by decide) (by decide) ?_
    refine y_iconst (v := 1) k57_32 oi_1 ?_
    obtain ⟨rfl, rfl⟩ := zpr hE
    exact y_zret k57_33 rfl (by decide)
  · rw [if_neg c112] at hE
    by_cases c113 : x1 = 1
    · rw [if_pos c113] at hE
      refine y_tsw (tgt := 34) (off := 33) 1 k57_1 c113 (by decide) (by decide) (by decide) (by decide) ?_
      refine y_iload_n k57_34 rfl ?_
      by_cases c115 : x0 = 0
      · rw [if_pos c115] at hE
        refine y_ifT (tgt := 43) k57_35 (by decide) c115 ?_
        refine y_iconst (v := 1) k57_43 oi_1 ?_
        refine y_goto (tgt := 48) k57_44 (by decide) ?_
        obtain ⟨rfl, rfl⟩ := zpr hE
        exact y_zret k57_48 rfl (by decide)
      · rw [if_neg c115] at hE
        refine y_ifF 43 k57_35 (by decide) c115 ?_
        refine y_iload_n k57_38 rfl ?_
        refine y_iconst (v := 1) k57_39 oi_1 ?_
        by_cases c114 : ¬ x0 = 1
        · rw [if_pos c114] at hE
          refine y_icT (tgt := 47) k57_40 (by decide) c114 ?_
          refine y_iconst (v := 0) k57_47 oi_0 ?_
          obtain ⟨rfl, rfl⟩ := zpr hE
          exact y_zret k57_48 rfl (by decide)
        · rw [if_neg c114] at hE
          refine y_icF 47 k57_40 (by decide) c114 ?_
          refine y_iconst (v := 1) k57_43 oi_1 ?_
          refine y_goto (tgt := 48) k57_44 (by decide) ?_
          obtain ⟨rfl, rfl⟩ := zpr hE
          exact y_zret k57_48 rfl (by decide)
    · rw [if_neg c113] at hE
      by_cases c116 : x1 = 2
      · rw [if_pos c116] at hE
        refine y_tsw (tgt := 49) (off := 48) 2 k57_1 c116 (by decide) (by decide) (by decide) (by decide) ?_
        refine y_iload_n k57_49 rfl ?_
        refine y_iconst (v := 1) k57_50 oi_1 ?_
        by_cases c117 : ¬ x0 = 1
        · rw [if_pos c117] at hE
          refine y_icT (tgt := 58) k57_51 (by decide) c117 ?_
          refine y_iconst (v := 0) k57_58 oi_0 ?_
          obtain ⟨rfl, rfl⟩ := zpr hE
          exact y_zret k57_59 rfl (by decide)
        · rw [if_neg c117] at hE
          refine y_icF 58 k57_51 (by decide) c117 ?_
          refine y_iconst (v := 1) k57_54 oi_1 ?_
          refine y_goto (tgt := 59) k57_55 (by decide) ?_
          obtain ⟨rfl, rfl⟩ := zpr hE
          exact y_zret k57_59 rfl (by decide)
      · rw [if_neg c116] at hE
        by_cases c118 : x1 = 3
        · rw [if_pos c118] at hE
          refine y_tsw (tgt := 60) (off := 59) 3 k57_1 c118 (by decide) (by decide) (by decide) (by decide) ?_
          refine y_iload_n k57_60 rfl ?_
          refine y_iconst (v := 2) k57_61 oi_2 ?_
          by_cases c120 : x0 = 2
          · rw [if_pos c120] at hE
            refine y_icT (tgt := 70) k57_62 (by decide) c120 ?_
            refine y_iconst (v := 1) k57_70 oi_1 ?_
            refine y_goto (tgt := 75) k57_71 (by decide) ?_
            obtain ⟨rfl, rfl⟩ := zpr hE
            exact y_zret k57_75 rfl (by decide)
          · rw [if_neg c120] at hE
            refine y_icF 70 k57_62 (by decide) c120 ?_
            refine y_iload_n k57_65 rfl ?_
            refine y_iconst (v := 3) k57_66 oi_3 ?_
            by_cases c119 : ¬ x0 = 3
            · rw [if_pos c119] at hE
              refine y_icT (tgt := 74) k57_67 (by decide) c119 ?_
              refine y_iconst (v := 0) k57_74 oi_0 ?_
              obtain ⟨rfl, rfl⟩ := zpr hE
              exact y_zret k57_75 rfl (by decide)
            · rw [if_neg c119] at hE
              refine y_icF 74 k57_67 (by decide) c119 ?_
              refine y_iconst (v := 1) k57_70 oi_1 ?_
              refine y_goto (tgt := 75) k57_71 (by decide) ?_
              obtain ⟨rfl, rfl⟩ := zpr hE
              exact y_zret k57_75 rfl (by decide)
        · rw [if_neg c118] at hE
          have w1 : x1.toInt < 0 ∨ 3 < x1.toInt := by
            have e0 := lv_neT (a := 0) c112 (by decide)
            have e1 := lv_neT (a := 1) c113 (by decide)
            have e2 := lv_neT (a := 2) c116 (by decide)
            have e3 := lv_neT (a := 3) c118 (by decide)
            omega
          refine y_tswD (tgt := 76) k57_1 w1 (by decide) ?_
          refine y_iload_n k57_76 rfl ?_
          refine y_iconst (v := 4) k57_77 oi_4 ?_
          by_cases c122 : ¬ x1 = 4
          · rw [if_pos c122] at hE
            refine y_icT (tgt := 90) k57_78 (by decide) c122 ?_
            refine y_iconst (v := 0) k57_90 oi_0 ?_
            obtain ⟨rfl, rfl⟩ := zpr hE
            exact y_zret k57_91 rfl (by decide)
          · rw [if_neg c122] at hE
            refine y_icF 90 k57_78 (by decide) c122 ?_
            refine y_iload_n k57_81 rfl ?_
            refine y_iconst (v := 3) k57_82 oi_3 ?_
            by_cases c121 : ¬ x0 = 3
            · rw [if_pos c121] at hE
              refine y_icT (tgt := 90) k57_83 (by decide) c121 ?_
              refine y_iconst (v := 0) k57_90 oi_0 ?_
              obtain ⟨rfl, rfl⟩ := zpr hE
              exact y_zret k57_91 rfl (by decide)
            · rw [if_neg c121] at hE
              refine y_icF 90 k57_83 (by decide) c121 ?_
              refine y_iconst (v := 1) k57_86 oi_1 ?_
              refine y_goto (tgt := 91) k57_87 (by decide) ?_
              obtain ⟨rfl, rfl⟩ := zpr hE
              exact y_zret k57_91 rfl (by decide)
-- AdjectiveCoupons.isAdjective
def f63 (K : Nat) (x0 : Int32) (g : zS) : Option (Int32 × zS) := if x0 = 1 then some (1, g) else if x0 = 2 then some (1, g) else if ¬ x0 = 3 then some (0, g) else (some (1, g))
theorem F63 {L : Nat} {xs : Nat → Int32} (K : Nat) (x0 : Int32) (g : zS) (r : Int32) (g' : zS) (hE : f63 K x0 g = some (r, g')) (d : Nat) : zE2 L xs (d + 1) 63 [.int x0] g (some (.int r)) g' := by
  refine y_ev (n := 0) (d := d + 0) (ls := [some (.int x0)]) zm63_get (by decide) (Nat.le_of_ble_eq_true rfl) rfl ?_
  unfold f63 at hE
  refine y_iload_n k63_0 rfl ?_
  refine y_iconst (v := 1) k63_1 oi_1 ?_
  by_cases c106 : x0 = 1
  · rw [if_pos c106] at hE
    refine y_icT (tgt := 15) k63_2 (by decide) c106 ?_
    refine y_iconst (v := 1) k63_15 oi_1 ?_
    refine y_goto (tgt := 20) k63_16 (by decide) ?_
    obtain ⟨rfl, rfl⟩ := zpr hE
    exact y_zret k63_20 rfl (by decide)
  · rw [if_neg c106] at hE
    refine y_icF 15 k63_2 (by decide) c106 ?_
    refine y_iload_n k63_5 rfl ?_
    refine y_iconst (v := 2) k63_6 oi_2 ?_
    by_cases c105 : x0 = 2
    · rw [if_pos c105] at hE
      refine y_icT (tgt := 15) k63_7 (by decide) c105 ?_
      refine y_iconst (v := 1) k63_15 oi_1 ?_
      refine y_goto (tgt := 20) k63_16 (by decide) ?_
      obtain ⟨rfl, rfl⟩ := zpr hE
      exact y_zret k63_20 rfl (by decide)
    · rw [if_neg c105] at hE
      refine y_icF 15 k63_7 (by decide) c105 ?_
      refine y_iload_n k63_10 rfl ?_
      refine y_iconst (v := 3) k63_11 oi_3 ?_
      by_cases c104 : ¬ x0 = 3
      · rw [if_pos c104] at hE
        refine y_icT (tgt := 19) k63_12 (by decide) c104 ?_
        refine y_iconst (v := 0) k63_19 oi_0 ?_
        obtain ⟨rfl, rfl⟩ := zpr hE
        exact y_zret k63_20 rfl (by decide)
      · rw [if_neg c104] at hE
        refine y_icF 19 k63_12 (by decide) c104 ?_
        refine y_iconst (v := 1) k63_15 oi_1 ?_
        refine y_goto (tgt := 20) k63_16 (by decide) ?_
        obtain ⟨rfl, rfl⟩ := zpr hE
        exact y_zret k63_20 rfl (by decide)
-- AdjectiveCoupons.isIn
def f64 (K : Nat) (x0 : Int32) (x1 : Int32) (g : zS) : Option (Int32 × zS) := if ¬ ((x0 >>> (x1 &&& 31)) &&& 1) = 1 then some (0, g) else (some (1, g))
theorem F64 {L : Nat} {xs : Nat → Int32} (K : Nat) (x0 : Int32) (x1 : Int32) (g : zS) (r : Int32) (g' : zS) (hE : f64 K x0 x1 g = some (r, g')) (d : Nat) : zE2 L xs (d + 1) 64 [.int x0, .int x1] g (some (.int r)) g' := by
  refine y_ev (n := 0) (d := d + 0) (ls := [some (.int x0), some (.int x1)]) zm64_get (by decide) (Nat.le_of_ble_eq_true rfl) rfl ?_
  unfold f64 at hE
  refine y_iload_n k64_0 rfl ?_
  refine y_iload_n k64_1 rfl ?_
  refine y_ishr k64_2 ?_
  refine y_iconst (v := 1) k64_3 oi_1 ?_
  refine y_iand k64_4 ?_
  refine y_iconst (v := 1) k64_5 oi_1 ?_
  by_cases c102 : ¬ ((x0 >>> (x1 &&& 31)) &&& 1) = 1
  · rw [if_pos c102] at hE
    refine y_icT (tgt := 13) k64_6 (by decide) c102 ?_
    refine y_iconst (v := 0) k64_13 oi_0 ?_
    obtain ⟨rfl, rfl⟩ := zpr hE
    exact y_zret k64_14 rfl (by decide)
  · rw [if_neg c102] at hE
    refine y_icF 13 k64_6 (by decide) c102 ?_
    refine y_iconst (v := 1) k64_9 oi_1 ?_
    refine y_goto (tgt := 14) k64_10 (by decide) ?_
    obtain ⟨rfl, rfl⟩ := zpr hE
    exact y_zret k64_14 rfl (by decide)
-- AdjectiveCoupons$Prices.isFree
def f65_14 (K : Nat) (x2 : Int32) (g : zS) : Option (Int32 × zS) := if x2 = 0 then some (0, g) else if ((g 183 1) &&& 2) = 0 then some (0, g) else (some (1, g))
def f65 (K : Nat) (x1 : Int32) (x2 : Int32) (g : zS) : Option (Int32 × zS) := if ¬ x1 = 4 then f65_14 K x2 g else if ¬ ((g 183 1) &&& 1) = 0 then some (1, g) else (f65_14 K x2 g)
theorem F65_14 {L : Nat} {xs : Nat → Int32} {d : Nat} (K : Nat) (x2 : Int32) (g : zS) (r : Int32) (g' : zS) (hE : f65_14 K x2 g = some (r, g')) : zG2 L xs (d + 0) zm65 14 [some (.ref 183), none, some (.int x2)] [] g (some (.int r)) g' := by
  unfold f65_14 at hE
  refine y_iload_n k65_14 rfl ?_
  by_cases c112 : x2 = 0
  · rw [if_pos c112] at hE
    refine y_ifT (tgt := 31) k65_15 (by decide) c112 ?_
    refine y_iconst (v := 0) k65_31 oi_0 ?_
    obtain ⟨rfl, rfl⟩ := zpr hE
    exact y_zret k65_32 rfl (by decide)
  · rw [if_neg c112] at hE
    refine y_ifF 31 k65_15 (by decide) c112 ?_
    refine y_aload_n k65_18 rfl rfl ?_
    refine y_getI k65_19 fk_7_26 sh183 rfl ?_
    refine y_iconst (v := 2) k65_22 oi_2 ?_
    refine y_iand k65_23 ?_
    by_cases c111 : ((g 183 1) &&& 2) = 0
    · rw [if_pos c111] at hE
      refine y_ifT (tgt := 31) k65_24 (by decide) c111 ?_
      refine y_iconst (v := 0) k65_31 oi_0 ?_
      obtain ⟨rfl, rfl⟩ := zpr hE
      exact y_zret k65_32 rfl (by decide)
    · rw [if_neg c111] at hE
      refine y_ifF 31 k65_24 (by decide) c111 ?_
      refine y_iconst (v := 1) k65_27 oi_1 ?_
      refine y_goto (tgt := 32) k65_28 (by decide) ?_
      obtain ⟨rfl, rfl⟩ := zpr hE
      exact y_zret k65_32 rfl (by decide)
theorem F65 {L : Nat} {xs : Nat → Int32} (K : Nat) (x1 : Int32) (x2 : Int32) (g : zS) (r : Int32) (g' : zS) (hE : f65 K x1 x2 g = some (r, g')) (d : Nat) : zE2 L xs (d + 1) 65 [.ref 183, .int x1, .int x2] g (some (.int r)) g' := by
  refine y_ev (n := 0) (d := d + 0) (ls := [some (.ref 183), some (.int x1), some (.int x2)]) zm65_get (by decide) (Nat.le_of_ble_eq_true rfl) rfl ?_
  unfold f65 at hE
  refine y_iload_n k65_0 rfl ?_
  refine y_iconst (v := 4) k65_1 oi_4 ?_
  by_cases c114 : ¬ x1 = 4
  · rw [if_pos c114] at hE
    refine y_icT (tgt := 14) k65_2 (by decide) c114 ?_
    exact y_weak (ls0 := [some (.ref 183), none, some (.int x2)]) ⟨rfl, rfl, rfl, trivial⟩ (F65_14 K x2 _ _ _ hE)
  · rw [if_neg c114] at hE
    refine y_icF 14 k65_2 (by decide) c114 ?_
    refine y_aload_n k65_5 rfl rfl ?_
    refine y_getI k65_6 fk_7_26 sh183 rfl ?_
    refine y_iconst (v := 1) k65_9 oi_1 ?_
    refine y_iand k65_10 ?_
    by_cases c113 : ¬ ((g 183 1) &&& 1) = 0
    · rw [if_pos c113] at hE
      refine y_ifT (tgt := 27) k65_11 (by decide) c113 ?_
      refine y_iconst (v := 1) k65_27 oi_1 ?_
      refine y_goto (tgt := 32) k65_28 (by decide) ?_
      obtain ⟨rfl, rfl⟩ := zpr hE
      exact y_zret k65_32 rfl (by decide)
    · rw [if_neg c113] at hE
      refine y_ifF 27 k65_11 (by decide) c113 ?_
      exact y_weak (ls0 := [some (.ref 183), none, some (.int x2)]) ⟨rfl, rfl, rfl, trivial⟩ (F65_14 K x2 _ _ _ hE)
-- AdjectiveCoupons$Prices.priceOfOne
def f66_19 (K : Nat) (x1 : Int32) (xs0 : Int32) (g : zS) : Option (Int32 × zS) := if ¬ x1 = 3 then some ((2 + xs0), g) else (some ((1 + xs0), g))
def f66_18 (K : Nat) (x1 : Int32) (g : zS) : Option (Int32 × zS) := f66_19 K x1 0 g
def f66 (K : Nat) (x1 : Int32) (x2 : Int32) (g : zS) : Option (Int32 × zS) := if ((g 183 1) &&& 4) = 0 then f66_18 K x1 g else if x2 < 2 then f66_18 K x1 g else (f66_19 K x1 1 g)
theorem F66_19 {L : Nat} {xs : Nat → Int32} {d : Nat} (K : Nat) (x1 : Int32) (xs0 : Int32) (g : zS) (r : Int32) (g' : zS) (hE : f66_19 K x1 xs0 g = some (r, g')) : zG2 L xs (d + 0) zm66 19 [none, some (.int x1), none, none] [.int xs0] g (some (.int r)) g' := by
  unfold f66_19 at hE
  refine y_istore_n (ls2 := [none, some (.int x1), none, some (.int xs0)]) k66_19 rfl (Nat.le_of_ble_eq_true rfl) rfl ?_
  refine y_iload_n k66_20 rfl ?_
  refine y_iconst (v := 3) k66_21 oi_3 ?_
  by_cases c108 : ¬ x1 = 3
  · rw [if_pos c108] at hE
    refine y_icT (tgt := 29) k66_22 (by decide) c108 ?_
    refine y_iconst (v := 2) k66_29 oi_2 ?_
    refine y_iload_n k66_30 rfl ?_
    refine y_iadd k66_31 ?_
    obtain ⟨rfl, rfl⟩ := zpr hE
    exact y_iret k66_32 rfl
  · rw [if_neg c108] at hE
    refine y_icF 29 k66_22 (by decide) c108 ?_
    refine y_iconst (v := 1) k66_25 oi_1 ?_
    refine y_goto (tgt := 30) k66_26 (by decide) ?_
    refine y_iload_n k66_30 rfl ?_
    refine y_iadd k66_31 ?_
    obtain ⟨rfl, rfl⟩ := zpr hE
    exact y_iret k66_32 rfl
theorem F66_18 {L : Nat} {xs : Nat → Int32} {d : Nat} (K : Nat) (x1 : Int32) (g : zS) (r : Int32) (g' : zS) (hE : f66_18 K x1 g = some (r, g')) : zG2 L xs (d + 0) zm66 18 [none, some (.int x1), none, none] [] g (some (.int r)) g' := by
  unfold f66_18 at hE
  refine y_iconst (v := 0) k66_18 oi_0 ?_
  exact F66_19 K x1 0 _ _ _ hE
theorem F66 {L : Nat} {xs : Nat → Int32} (K : Nat) (x1 : Int32) (x2 : Int32) (g : zS) (r : Int32) (g' : zS) (hE : f66 K x1 x2 g = some (r, g')) (d : Nat) : zE2 L xs (d + 1) 66 [.ref 183, .int x1, .int x2] g (some (.int r)) g' := by
  refine y_ev (n := 0) (d := d + 0) (ls := [some (.ref 183), some (.int x1), some (.int x2), none]) zm66_get (by decide) (Nat.le_of_ble_eq_true rfl) rfl ?_
  unfold f66 at hE
  refine y_aload_n k66_0 rfl rfl ?_
  refine y_getI k66_1 fk_7_26 sh183 rfl ?_
  refine y_iconst (v := 4) k66_4 oi_4 ?_
  refine y_iand k66_5 ?_
  by_cases c110 : ((g 183 1) &&& 4) = 0
  · rw [if_pos c110] at hE
    refine y_ifT (tgt := 18) k66_6 (by decide) c110 ?_
    exact y_weak (ls0 := [none, some (.int x1), none, none]) ⟨rfl, rfl, rfl, rfl, trivial⟩ (F66_18 K x1 _ _ _ hE)
  · rw [if_neg c110] at hE
    refine y_ifF 18 k66_6 (by decide) c110 ?_
    refine y_iload_n k66_9 rfl ?_
    refine y_iconst (v := 2) k66_10 oi_2 ?_
    by_cases c109 : x2 < 2
    · rw [if_pos c109] at hE
      refine y_icT (tgt := 18) k66_11 (by decide) c109 ?_
      exact y_weak (ls0 := [none, some (.int x1), none, none]) ⟨rfl, rfl, rfl, rfl, trivial⟩ (F66_18 K x1 _ _ _ hE)
    · rw [if_neg c109] at hE
      refine y_icF 18 k66_11 (by decide) c109 ?_
      refine y_iconst (v := 1) k66_14 oi_1 ?_
      refine y_goto (tgt := 19) k66_15 (by decide) ?_
      exact y_weak (ls0 := [none, some (.int x1), none, none]) ⟨rfl, rfl, rfl, rfl, trivial⟩ (F66_19 K x1 1 _ _ _ hE)
-- AdjectiveCoupons$Prices.letOff
def f67 (K : Nat) (x0 : Int32) (x1 : Int32) (x2 : Int32) (g : zS) : Option (Int32 × zS) := if ¬ x0 = 3 then if ¬ x0 = 2 then some (0, g) else (some (1, g)) else if x1 = 0 then some (1, g) else (some (x2, g))
theorem F67 {L : Nat} {xs : Nat → Int32} (K : Nat) (x0 : Int32) (x1 : Int32) (x2 : Int32) (g : zS) (r : Int32) (g' : zS) (hE : f67 K x0 x1 x2 g = some (r, g')) (d : Nat) : zE2 L xs (d + 1) 67 [.int x0, .int x1, .int x2] g (some (.int r)) g' := by
  refine y_ev (n := 0) (d := d + 0) (ls := [some (.int x0), some (.int x1), some (.int x2)]) zm67_get (by decide) (Nat.le_of_ble_eq_true rfl) rfl ?_
  unfold f67 at hE
  refine y_iload_n k67_0 rfl ?_
  refine y_iconst (v := 3) k67_1 oi_3 ?_
  by_cases c106 : ¬ x0 = 3
  · rw [if_pos c106] at hE
    refine y_icT (tgt := 15) k67_2 (by decide) c106 ?_
    refine y_iload_n k67_15 rfl ?_
    refine y_iconst (v := 2) k67_16 oi_2 ?_
    by_cases c104 : ¬ x0 = 2
    · rw [if_pos c104] at hE
      refine y_icT (tgt := 24) k67_17 (by decide) c104 ?_
      refine y_iconst (v := 0) k67_24 oi_0 ?_
      obtain ⟨rfl, rfl⟩ := zpr hE
      exact y_iret k67_25 rfl
    · rw [if_neg c104] at hE
      refine y_icF 24 k67_17 (by decide) c104 ?_
      refine y_iconst (v := 1) k67_20 oi_1 ?_
      refine y_goto (tgt := 25) k67_21 (by decide) ?_
      obtain ⟨rfl, rfl⟩ := zpr hE
      exact y_iret k67_25 rfl
  · rw [if_neg c106] at hE
    refine y_icF 15 k67_2 (by decide) c106 ?_
    refine y_iload_n k67_5 rfl ?_
    by_cases c105 : x1 = 0
    · rw [if_pos c105] at hE
      refine y_ifT (tgt := 13) k67_6 (by decide) c105 ?_
      refine y_iconst (v := 1) k67_13 oi_1 ?_
      obtain ⟨rfl, rfl⟩ := zpr hE
      exact y_iret k67_14 rfl
    · rw [if_neg c105] at hE
      refine y_ifF 13 k67_6 (by decide) c105 ?_
      refine y_iload_n k67_9 rfl ?_
      refine y_goto (tgt := 14) k67_10 (by decide) ?_
      obtain ⟨rfl, rfl⟩ := zpr hE
      exact y_iret k67_14 rfl
-- AdjectiveCoupons.wipe
def f70 (K : Nat) (g : zS) : Option (Int32 × zS) := some ((g 180 1), (zup g 180 1 0))
theorem F70 {L : Nat} {xs : Nat → Int32} (K : Nat) (g : zS) (r : Int32) (g' : zS) (hE : f70 K  g = some (r, g')) (d : Nat) : zE2 L xs (d + 1) 70 [.ref 0] g (some (.int r)) g' := by
  refine y_ev (n := 0) (d := d + 0) (ls := [some (.ref 0), none]) zm70_get (by decide) (Nat.le_of_ble_eq_true rfl) rfl ?_
  unfold f70 at hE
  refine y_aload_n k70_0 rfl rfl ?_
  refine y_getR k70_1 fk_0_43 sh0 rfl ?_
  refine y_getI k70_4 fk_0_101 sh180 rfl ?_
  refine y_istore_n (ls2 := [some (.ref 0), some (.int (g 180 1))]) k70_7 rfl (Nat.le_of_ble_eq_true rfl) rfl ?_
  refine y_aload_n k70_8 rfl rfl ?_
  refine y_getR k70_9 fk_0_43 sh0 rfl ?_
  refine y_iconst (v := 0) k70_12 oi_0 ?_
  refine y_putI k70_13 fk_0_101 sh180 rfl pi_6_1.1 pi_6_1.2 ?_
  refine y_iload_n k70_16 rfl ?_
  obtain ⟨rfl, rfl⟩ := zpr hE
  exact y_iret k70_17 rfl
-- AdjectiveCoupons$Past.pick
def f79 (K : Nat) (o0 : Nat) (x1 : Int32) (g : zS) : Option (Option Nat × zS) := if x1 < 0 then some (none, g) else if (nI (zlen o0)) ≤ x1 then some (none, g) else if zin x1 (zlen o0) then some (some (zel o0 x1.toNatClampNeg), g) else none
theorem F79 {L : Nat} {xs : Nat → Int32} (K : Nat) (o0 : Nat) (x1 : Int32) (h0 : zSts o0) (g : zS) (r : Option Nat) (g' : zS) (hE : f79 K o0 x1 g = some (r, g')) (d : Nat) : zE2 L xs (d + 1) 79 [.ref o0, .int x1] g (some (zov r)) g' := by
  refine y_ev (n := 0) (d := d + 0) (ls := [some (.ref o0), some (.int x1)]) zm79_get (by decide) (Nat.le_of_ble_eq_true rfl) rfl ?_
  unfold f79 at hE
  refine y_iload_n k79_0 rfl ?_
  by_cases c106 : x1 < 0
  · rw [if_pos c106] at hE
    refine y_ifT (tgt := 16) k79_1 (by decide) c106 ?_
    refine y_null k79_16 ?_
    obtain ⟨rfl, rfl⟩ := zpr hE
    exact y_aret k79_17 rfl rfl
  · rw [if_neg c106] at hE
    refine y_ifF 16 k79_1 (by decide) c106 ?_
    refine y_iload_n k79_4 rfl ?_
    refine y_aload_n k79_5 rfl rfl ?_
    refine y_alenS k79_6 h0.1 ?_
    by_cases c105 : (nI (zlen o0)) ≤ x1
    · rw [if_pos c105] at hE
      refine y_icT (tgt := 16) k79_7 (by decide) c105 ?_
      refine y_null k79_16 ?_
      obtain ⟨rfl, rfl⟩ := zpr hE
      exact y_aret k79_17 rfl rfl
    · rw [if_neg c105] at hE
      refine y_icF 16 k79_7 (by decide) c105 ?_
      refine y_aload_n k79_10 rfl rfl ?_
      refine y_iload_n k79_11 rfl ?_
      obtain ⟨hc104, hE⟩ := zif_some hE
      refine y_aald k79_12 (Or.inl rfl) h0.1 hc104 ?_
      refine y_goto (tgt := 17) k79_13 (by decide) ?_
      obtain ⟨rfl, rfl⟩ := zpr hE
      exact y_aret k79_17 rfl rfl
theorem P79 {K o0 : Nat} {x1 : Int32} {g g' : zS} {z : Option Nat} (h0 : zSts o0) (h : f79 K o0 x1 g = some (z, g')) : ∀ q, z = some q → zState q := by
  unfold f79 at h
  repeat' split at h
  all_goals (first | (cases h; intro q hq; cases hq; done) | (cases h; done) | (cases h; intro q hq; cases hq; exact h0.2 _ (by assumption)))
-- AdjectiveCoupons.halvesNextWeek
def f86_10 (K : Nat) (x2 : Int32) (xs0 : Int32) (g : zS) : Option (Int32 × zS) := some ((if (xs0 + (2 * x2)) < (60 : Int32) then (xs0 + (2 * x2)) else (60 : Int32)), g)
def f86 (K : Nat) (x0 : Int32) (x1 : Int32) (x2 : Int32) (g : zS) : Option (Int32 × zS) := if ¬ x1 = 1 then f86_10 K x2 0 g else (f86_10 K x2 x0 g)
theorem F86_10 {L : Nat} {xs : Nat → Int32} {d : Nat} (K : Nat) (x2 : Int32) (xs0 : Int32) (g : zS) (r : Int32) (g' : zS) (hE : f86_10 K x2 xs0 g = some (r, g')) : zG2 L xs (d + 0) zm86 10 [none, none, some (.int x2), none] [.int xs0] g (some (.int r)) g' := by
  unfold f86_10 at hE
  refine y_istore_n (ls2 := [none, none, some (.int x2), some (.int xs0)]) k86_10 rfl (Nat.le_of_ble_eq_true rfl) rfl ?_
  refine y_bipush (v := 60) k86_11 b8_60 ?_
  refine y_iload_n k86_13 rfl ?_
  refine y_iconst (v := 2) k86_14 oi_2 ?_
  refine y_iload_n k86_15 rfl ?_
  refine y_imul k86_16 ?_
  refine y_iadd k86_17 ?_
  refine y_min k86_18 lk_0_318 (Nat.le_of_ble_eq_true rfl) ?_
  obtain ⟨rfl, rfl⟩ := zpr hE
  exact y_iret k86_21 rfl
theorem F86 {L : Nat} {xs : Nat → Int32} (K : Nat) (x0 : Int32) (x1 : Int32) (x2 : Int32) (g : zS) (r : Int32) (g' : zS) (hE : f86 K x0 x1 x2 g = some (r, g')) (d : Nat) : zE2 L xs (d + 1) 86 [.int x0, .int x1, .int x2] g (some (.int r)) g' := by
  refine y_ev (n := 0) (d := d + 0) (ls := [some (.int x0), some (.int x1), some (.int x2), none]) zm86_get (by decide) (Nat.le_of_ble_eq_true rfl) rfl ?_
  unfold f86 at hE
  refine y_iload_n k86_0 rfl ?_
  refine y_iconst (v := 1) k86_1 oi_1 ?_
  by_cases c103 : ¬ x1 = 1
  · rw [if_pos c103] at hE
    refine y_icT (tgt := 9) k86_2 (by decide) c103 ?_
    refine y_iconst (v := 0) k86_9 oi_0 ?_
    exact y_weak (ls0 := [none, none, some (.int x2), none]) ⟨rfl, rfl, rfl, rfl, trivial⟩ (F86_10 K x2 0 _ _ _ hE)
  · rw [if_neg c103] at hE
    refine y_icF 9 k86_2 (by decide) c103 ?_
    refine y_iload_n k86_5 rfl ?_
    refine y_goto (tgt := 10) k86_6 (by decide) ?_
    exact y_weak (ls0 := [none, none, some (.int x2), none]) ⟨rfl, rfl, rfl, rfl, trivial⟩ (F86_10 K x2 x0 _ _ _ hE)
-- AdjectiveCoupons$Drafts.at
def f120_23 (K : Nat) (zs0 : Option Nat) (g : zS) : Option (Nat × zS) := zcs zs0 (some (188, g)) (fun q110 => some (q110, g))
def f120_22 (K : Nat) (g : zS) : Option (Nat × zS) := f120_23 K none g
def f120 (K : Nat) (x1 : Int32) (g : zS) : Option (Nat × zS) := if x1 < 0 then f120_22 K  g else if 6 ≤ x1 then f120_22 K  g else if zin x1 6 then f120_23 K (some (zel 187 x1.toNatClampNeg)) g else none
theorem F120_23 {L : Nat} {xs : Nat → Int32} {d : Nat} (K : Nat) (zs0 : Option Nat) (hs0 : ∀ q, zs0 = some q → zLine q) (g : zS) (r : Nat) (g' : zS) (hE : f120_23 K zs0 g = some (r, g')) : zG2 L xs (d + 0) zm120 23 [some (.ref 186), none, none] [zov zs0] g (some (.ref r)) g' := by
  unfold f120_23 at hE
  refine y_astore_n (ls2 := [some (.ref 186), none, some (zov zs0)]) k120_23 (zov_rv _) rfl (Nat.le_of_ble_eq_true rfl) rfl ?_
  refine y_aload_n k120_24 rfl (zov_rv _) ?_
  rcases zs0 with _ | q110
  · rw [zcs_n] at hE
    refine y_nonnullF k120_25 ?_
    refine y_aload_n k120_28 rfl rfl ?_
    refine y_getR k120_29 fk_8_18 sh186 rfl ?_
    refine y_goto (tgt := 36) k120_32 (by decide) ?_
    obtain ⟨rfl, rfl⟩ := zpr hE
    exact y_aret k120_36 rfl rfl
  · rw [zcs_s] at hE
    refine y_nonnullT (tgt := 35) k120_25 (by decide) ?_
    refine y_aload_n k120_35 rfl rfl ?_
    obtain ⟨rfl, rfl⟩ := zpr hE
    exact y_aret k120_36 rfl rfl
theorem F120_22 {L : Nat} {xs : Nat → Int32} {d : Nat} (K : Nat) (g : zS) (r : Nat) (g' : zS) (hE : f120_22 K  g = some (r, g')) : zG2 L xs (d + 0) zm120 22 [some (.ref 186), none, none] [] g (some (.ref r)) g' := by
  unfold f120_22 at hE
  refine y_null k120_22 ?_
  exact F120_23 K none (fun q hq => by cases hq) _ _ _ hE
theorem F120 {L : Nat} {xs : Nat → Int32} (K : Nat) (x1 : Int32) (g : zS) (r : Nat) (g' : zS) (hE : f120 K x1 g = some (r, g')) (d : Nat) : zE2 L xs (d + 1) 120 [.ref 186, .int x1] g (some (.ref r)) g' := by
  refine y_ev (n := 0) (d := d + 0) (ls := [some (.ref 186), some (.int x1), none]) zm120_get (by decide) (Nat.le_of_ble_eq_true rfl) rfl ?_
  unfold f120 at hE
  refine y_iload_n k120_0 rfl ?_
  by_cases c113 : x1 < 0
  · rw [if_pos c113] at hE
    refine y_ifT (tgt := 22) k120_1 (by decide) c113 ?_
    exact y_weak (ls0 := [some (.ref 186), none, none]) ⟨rfl, rfl, rfl, trivial⟩ (F120_22 K  _ _ _ hE)
  · rw [if_neg c113] at hE
    refine y_ifF 22 k120_1 (by decide) c113 ?_
    refine y_iload_n k120_4 rfl ?_
    refine y_aload_n k120_5 rfl rfl ?_
    refine y_getR k120_6 fk_8_11 sh186 rfl ?_
    refine y_alen (v := 6) k120_9 sh187 (by decide) (by decide) rfl ?_
    by_cases c112 : 6 ≤ x1
    · rw [if_pos c112] at hE
      refine y_icT (tgt := 22) k120_10 (by decide) c112 ?_
      exact y_weak (ls0 := [some (.ref 186), none, none]) ⟨rfl, rfl, rfl, trivial⟩ (F120_22 K  _ _ _ hE)
    · rw [if_neg c112] at hE
      refine y_icF 22 k120_10 (by decide) c112 ?_
      refine y_aload_n k120_13 rfl rfl ?_
      refine y_getR k120_14 fk_8_11 sh186 rfl ?_
      refine y_iload_n k120_17 rfl ?_
      obtain ⟨hc111, hE⟩ := zif_some hE
      refine y_aald k120_18 (Or.inr rfl) ref187 hc111 ?_
      refine y_goto (tgt := 23) k120_19 (by decide) ?_
      exact y_weak (ls0 := [some (.ref 186), none, none]) ⟨rfl, rfl, rfl, trivial⟩ (F120_23 K (some (zel 187 x1.toNatClampNeg)) (zsm (ref187_el _ hc111)) _ _ _ hE)
theorem P120 {K : Nat} {x1 : Int32} {g g' : zS} {z : Nat} (h : f120 K x1 g = some (z, g')) : zLine z := by
  unfold f120 at h
  repeat' split at h
  · unfold f120_22 f120_23 at h
    cases h
    exact ⟨by decide +kernel, by decide +kernel, zArr_of (by decide +kernel)⟩
  · unfold f120_22 f120_23 at h
    cases h
    exact ⟨by decide +kernel, by decide +kernel, zArr_of (by decide +kernel)⟩
  · unfold f120_23 at h
    cases h
    exact ref187_el _ (by assumption)
  · cases h
-- AdjectiveCoupons.burn
def f121 (K : Nat) (g : zS) : Option (Int32 × zS) := some ((g 186 4), (zup g 186 4 0))
theorem F121 {L : Nat} {xs : Nat → Int32} (K : Nat) (g : zS) (r : Int32) (g' : zS) (hE : f121 K  g = some (r, g')) (d : Nat) : zE2 L xs (d + 1) 121 [.ref 0] g (some (.int r)) g' := by
  refine y_ev (n := 0) (d := d + 0) (ls := [some (.ref 0), none]) zm121_get (by decide) (Nat.le_of_ble_eq_true rfl) rfl ?_
  unfold f121 at hE
  refine y_aload_n k121_0 rfl rfl ?_
  refine y_getR k121_1 fk_0_57 sh0 rfl ?_
  refine y_getI k121_4 fk_0_102 sh186 rfl ?_
  refine y_istore_n (ls2 := [some (.ref 0), some (.int (g 186 4))]) k121_7 rfl (Nat.le_of_ble_eq_true rfl) rfl ?_
  refine y_aload_n k121_8 rfl rfl ?_
  refine y_getR k121_9 fk_0_57 sh0 rfl ?_
  refine y_iconst (v := 0) k121_12 oi_0 ?_
  refine y_putI k121_13 fk_0_102 sh186 rfl pi_8_4.1 pi_8_4.2 ?_
  refine y_iload_n k121_16 rfl ?_
  obtain ⟨rfl, rfl⟩ := zpr hE
  exact y_iret k121_17 rfl
-- AdjectiveCoupons$Row.sum
def f143_4 (K : Nat) : Nat → Nat → Int32 → Int32 → zS → Option (Int32 × zS)
  | 0, _, _, _, _ => none
  | n + 1, o0, x1, x2, g => if (nI (zlen (o0 + 1))) ≤ x2 then some (x1, g) else if zin x2 (zlen (o0 + 1)) then (f143_4 K n) o0 (x1 + (g (o0 + 1) x2.toNatClampNeg)) (x2 + 1) g else none
def f143 (K : Nat) (o0 : Nat) (g : zS) : Option (Int32 × zS) := f143_4 K K o0 0 0 g
theorem F143_4 {L : Nat} {xs : Nat → Int32} {d : Nat} (K : Nat) : ∀ (n : Nat) (o0 : Nat) (x1 : Int32) (x2 : Int32) (h0 : zRow o0) (g : zS) (r : Int32) (g' : zS) (hE : f143_4 K n o0 x1 x2 g = some (r, g')), zG2 L xs (d + 0) zm143 4 [some (.ref o0), some (.int x1), some (.int x2)] [] g (some (.int r)) g' := by
  intro n
  induction n with
  | zero => intro o0 x1 x2 h0 g r g' hE; cases hE
  | succ n ih =>
    intro o0 x1 x2 h0 g r g' hE
    rw [f143_4] at hE
    refine y_iload_n k143_4 rfl ?_
    refine y_aload_n k143_5 rfl rfl ?_
    refine y_getR k143_6 fk_2_7 h0.1 rfl ?_
    refine y_alenA k143_9 h0.2 ?_
    by_cases c104 : (nI (zlen (o0 + 1))) ≤ x2
    · rw [if_pos c104] at hE
      refine y_icT (tgt := 28) k143_10 (by decide) c104 ?_
      refine y_iload_n k143_28 rfl ?_
      obtain ⟨rfl, rfl⟩ := zpr hE
      exact y_iret k143_29 rfl
    · rw [if_neg c104] at hE
      refine y_icF 28 k143_10 (by decide) c104 ?_
      refine y_iload_n k143_13 rfl ?_
      refine y_aload_n k143_14 rfl rfl ?_
      refine y_getR k143_15 fk_2_7 h0.1 rfl ?_
      refine y_iload_n k143_18 rfl ?_
      obtain ⟨hc, hE⟩ := zif_some hE
      refine y_iald k143_19 h0.2 hc ?_
      refine y_iadd k143_20 ?_
      refine y_istore_n (ls2 := [some (.ref o0), some (.int (x1 + (g (o0 + 1) x2.toNatClampNeg))), some (.int x2)]) k143_21 rfl (Nat.le_of_ble_eq_true rfl) rfl ?_
      refine y_iinc (v := (x2 + 1)) (ls2 := [some (.ref o0), some (.int (x1 + (g (o0 + 1) x2.toNatClampNeg))), some (.int (x2 + 1))]) k143_22 rfl rfl (by rw [oi_1]) rfl ?_
      refine y_goto (tgt := 4) k143_25 (by decide) ?_
      exact ih o0 (x1 + (g (o0 + 1) x2.toNatClampNeg)) (x2 + 1) h0 _ _ _ hE
theorem F143 {L : Nat} {xs : Nat → Int32} (K : Nat) (o0 : Nat) (h0 : zRow o0) (g : zS) (r : Int32) (g' : zS) (hE : f143 K o0 g = some (r, g')) (d : Nat) : zE2 L xs (d + 1) 143 [.ref o0] g (some (.int r)) g' := by
  refine y_ev (n := 0) (d := d + 0) (ls := [some (.ref o0), none, none]) zm143_get (by decide) (Nat.le_of_ble_eq_true rfl) rfl ?_
  unfold f143 at hE
  refine y_iconst (v := 0) k143_0 oi_0 ?_
  refine y_istore_n (ls2 := [some (.ref o0), some (.int 0), none]) k143_1 rfl (Nat.le_of_ble_eq_true rfl) rfl ?_
  refine y_iconst (v := 0) k143_2 oi_0 ?_
  refine y_istore_n (ls2 := [some (.ref o0), some (.int 0), some (.int 0)]) k143_3 rfl (Nat.le_of_ble_eq_true rfl) rfl ?_
  exact F143_4 K K o0 0 0 h0 _ _ _ hE
-- AdjectiveCoupons$Text.append
def f13 (K : Nat) (x1 : Int32) (g : zS) : Option (Int32 × zS) := if (g 1 1) < 160 then zbd (f14 K 2 (g 1 1) x1 g) fun _ g105 => some (1, (zup g105 1 1 ((g105 1 1) + 1))) else (some (0, g))
theorem F13 {L : Nat} {xs : Nat → Int32} (K : Nat) (x1 : Int32) (g : zS) (r : Int32) (g' : zS) (hE : f13 K x1 g = some (r, g')) (d : Nat) : zE2 L xs (d + 2) 13 [.ref 1, .int x1] g (some (.int r)) g' := by
  refine y_ev (n := 0) (d := d + 1) (ls := [some (.ref 1), some (.int x1)]) zm13_get (by decide) (Nat.le_of_ble_eq_true rfl) rfl ?_
  unfold f13 at hE
  refine y_aload_n k13_0 rfl rfl ?_
  refine y_getI k13_1 fk_1_20 sh1 rfl ?_
  refine y_sipush (v := 160) k13_4 s16_160 ?_
  by_cases c108 : (g 1 1) < 160
  · rw [if_pos c108] at hE
    refine y_icT (tgt := 12) k13_7 (by decide) c108 ?_
    refine y_aload_n k13_12 rfl rfl ?_
    refine y_getR k13_13 fk_1_14 sh1 rfl ?_
    refine y_aload_n k13_16 rfl rfl ?_
    refine y_getI k13_17 fk_1_20 sh1 rfl ?_
    refine y_iload_n k13_20 rfl ?_
    obtain ⟨u106, g105, hc107, hE⟩ := zbd_some hE
    refine y_invVv (j := 14) (As := [.int (g 1 1), .int x1]) (rest := []) (N := zm14) (F14 K 2 (g 1 1) x1 rw2 _ u106 g105 hc107 (d + 0)) k13_21 lk_1_24 zm14_get na14 rfl (Nat.le_of_ble_eq_true rfl) sh2 (by decide) rfl ?_
    refine y_aload_n k13_24 rfl rfl ?_
    refine y_dup k13_25 rfl ?_
    refine y_getI k13_26 fk_1_20 sh1 rfl ?_
    refine y_iconst (v := 1) k13_29 oi_1 ?_
    refine y_iadd k13_30 ?_
    refine y_putI k13_31 fk_1_20 sh1 rfl pi_1_1.1 pi_1_1.2 ?_
    refine y_iconst (v := 1) k13_34 oi_1 ?_
    obtain ⟨rfl, rfl⟩ := zpr hE
    exact y_zret k13_35 rfl (by decide)
  · rw [if_neg c108] at hE
    refine y_icF 12 k13_7 (by decide) c108 ?_
    refine y_iconst (v := 0) k13_10 oi_0 ?_
    obtain ⟨rfl, rfl⟩ := zpr hE
    exact y_zret k13_11 rfl (by decide)
-- AdjectiveCoupons$Told.become
def f17 (K : Nat) (o0 : Nat) (o1 : Nat) (g : zS) : Option (Unit × zS) := zbd (f18 K (o0 + 1) (o1 + 1) (zup (zup (zup (zup (zup g o0 0 (g o1 0)) o0 1 ((zup g o0 0 (g o1 0)) o1 1)) o0 2 ((zup (zup g o0 0 (g o1 0)) o0 1 ((zup g o0 0 (g o1 0)) o1 1)) o1 2)) o0 3 ((zup (zup (zup g o0 0 (g o1 0)) o0 1 ((zup g o0 0 (g o1 0)) o1 1)) o0 2 ((zup (zup g o0 0 (g o1 0)) o0 1 ((zup g o0 0 (g o1 0)) o1 1)) o1 2)) o1 3)) o0 4 ((zup (zup (zup (zup g o0 0 (g o1 0)) o0 1 ((zup g o0 0 (g o1 0)) o1 1)) o0 2 ((zup (zup g o0 0 (g o1 0)) o0 1 ((zup g o0 0 (g o1 0)) o1 1)) o1 2)) o0 3 ((zup (zup (zup g o0 0 (g o1 0)) o0 1 ((zup g o0 0 (g o1 0)) o1 1)) o0 2 ((zup (zup g o0 0 (g o1 0)) o0 1 ((zup g o0 0 (g o1 0)) o1 1)) o1 2)) o1 3)) o1 4))) fun _ g122 => zbd (f18 K (o0 + 3) (o1 + 3) g122) fun _ g125 => zbd (f18 K (o0 + 5) (o1 + 5) g125) fun _ g128 => zbd (f18 K (o0 + 7) (o1 + 7) g128) fun _ g131 => zbd (f18 K (o0 + 9) (o1 + 9) g131) fun _ g134 => zbd (f18 K (o0 + 11) (o1 + 11) g134) fun _ g137 => zbd (f18 K (o0 + 13) (o1 + 13) g137) fun _ g140 => some ((), g140)
theorem F17 {L : Nat} {xs : Nat → Int32} (K : Nat) (o0 : Nat) (o1 : Nat) (h0 : zTold o0) (h1 : zTold o1) (g : zS) (r : Unit) (g' : zS) (hE : f17 K o0 o1 g = some (r, g')) (d : Nat) : zE2 L xs (d + 2) 17 [.ref o0, .ref o1] g none g' := by
  refine y_ev (n := 0) (d := d + 1) (ls := [some (.ref o0), some (.ref o1)]) zm17_get (by decide) (Nat.le_of_ble_eq_true rfl) rfl ?_
  unfold f17 at hE
  refine y_aload_n k17_0 rfl rfl ?_
  refine y_aload_n k17_1 rfl rfl ?_
  refine y_getI k17_2 fk_3_42 h1.1 rfl ?_
  refine y_putI k17_5 fk_3_42 h0.1 rfl pi_3_0.1 pi_3_0.2 ?_
  refine y_aload_n k17_8 rfl rfl ?_
  refine y_aload_n k17_9 rfl rfl ?_
  refine y_getI k17_10 fk_3_45 h1.1 rfl ?_
  refine y_putI k17_13 fk_3_45 h0.1 rfl pi_3_1.1 pi_3_1.2 ?_
  refine y_aload_n k17_16 rfl rfl ?_
  refine y_aload_n k17_17 rfl rfl ?_
  refine y_getI k17_18 fk_3_48 h1.1 rfl ?_
  refine y_putI k17_21 fk_3_48 h0.1 rfl pi_3_2.1 pi_3_2.2 ?_
  refine y_aload_n k17_24 rfl rfl ?_
  refine y_aload_n k17_25 rfl rfl ?_
  refine y_getI k17_26 fk_3_9 h1.1 rfl ?_
  refine y_putI k17_29 fk_3_9 h0.1 rfl pi_3_3.1 pi_3_3.2 ?_
  refine y_aload_n k17_32 rfl rfl ?_
  refine y_aload_n k17_33 rfl rfl ?_
  refine y_getI k17_34 fk_3_51 h1.1 rfl ?_
  refine y_putI k17_37 fk_3_51 h0.1 rfl pi_3_4.1 pi_3_4.2 ?_
  refine y_aload_n k17_40 rfl rfl ?_
  refine y_getR k17_41 fk_3_20 h0.1 rfl ?_
  refine y_aload_n k17_44 rfl rfl ?_
  refine y_getR k17_45 fk_3_20 h1.1 rfl ?_
  obtain ⟨u123, g122, hc124, hE⟩ := zbd_some hE
  refine y_invVv (j := 18) (As := [.ref (o1 + 1)]) (rest := []) (N := zm18) (F18 K (o0 + 1) (o1 + 1) h0.2.1 h1.2.1 _ u123 g122 hc124 (d + 0)) k17_48 lk_3_54 zm18_get na18 rfl (Nat.le_of_ble_eq_true rfl) h0.2.1.1 (by decide) rfl ?_
  refine y_aload_n k17_51 rfl rfl ?_
  refine y_getR k17_52 fk_3_24 h0.1 rfl ?_
  refine y_aload_n k17_55 rfl rfl ?_
  refine y_getR k17_56 fk_3_24 h1.1 rfl ?_
  obtain ⟨u126, g125, hc127, hE⟩ := zbd_some hE
  refine y_invVv (j := 18) (As := [.ref (o1 + 3)]) (rest := []) (N := zm18) (F18 K (o0 + 3) (o1 + 3) h0.2.2.1 h1.2.2.1 _ u126 g125 hc127 (d + 0)) k17_59 lk_3_54 zm18_get na18 rfl (Nat.le_of_ble_eq_true rfl) h0.2.2.1.1 (by decide) rfl ?_
  refine y_aload_n k17_62 rfl rfl ?_
  refine y_getR k17_63 fk_3_27 h0.1 rfl ?_
  refine y_aload_n k17_66 rfl rfl ?_
  refine y_getR k17_67 fk_3_27 h1.1 rfl ?_
  obtain ⟨u129, g128, hc130, hE⟩ := zbd_some hE
  refine y_invVv (j := 18) (As := [.ref (o1 + 5)]) (rest := []) (N := zm18) (F18 K (o0 + 5) (o1 + 5) h0.2.2.2.1 h1.2.2.2.1 _ u129 g128 hc130 (d + 0)) k17_70 lk_3_54 zm18_get na18 rfl (Nat.le_of_ble_eq_true rfl) h0.2.2.2.1.1 (by decide) rfl ?_
  refine y_aload_n k17_73 rfl rfl ?_
  refine y_getR k17_74 fk_3_30 h0.1 rfl ?_
  refine y_aload_n k17_77 rfl rfl ?_
  refine y_getR k17_78 fk_3_30 h1.1 rfl ?_
  obtain ⟨u132, g131, hc133, hE⟩ := zbd_some hE
  refine y_invVv (j := 18) (As := [.ref (o1 + 7)]) (rest := []) (N := zm18) (F18 K (o0 + 7) (o1 + 7) h0.2.2.2.2.1 h1.2.2.2.2.1 _ u132 g131 hc133 (d + 0)) k17_81 lk_3_54 zm18_get na18 rfl (Nat.le_of_ble_eq_true rfl) h0.2.2.2.2.1.1 (by decide) rfl ?_
  refine y_aload_n k17_84 rfl rfl ?_
  refine y_getR k17_85 fk_3_33 h0.1 rfl ?_
  refine y_aload_n k17_88 rfl rfl ?_
  refine y_getR k17_89 fk_3_33 h1.1 rfl ?_
  obtain ⟨u135, g134, hc136, hE⟩ := zbd_some hE
  refine y_invVv (j := 18) (As := [.ref (o1 + 9)]) (rest := []) (N := zm18) (F18 K (o0 + 9) (o1 + 9) h0.2.2.2.2.2.1 h1.2.2.2.2.2.1 _ u135 g134 hc136 (d + 0)) k17_92 lk_3_54 zm18_get na18 rfl (Nat.le_of_ble_eq_true rfl) h0.2.2.2.2.2.1.1 (by decide) rfl ?_
  refine y_aload_n k17_95 rfl rfl ?_
  refine y_getR k17_96 fk_3_36 h0.1 rfl ?_
  refine y_aload_n k17_99 rfl rfl ?_
  refine y_getR k17_100 fk_3_36 h1.1 rfl ?_
  obtain ⟨u138, g137, hc139, hE⟩ := zbd_some hE
  refine y_invVv (j := 18) (As := [.ref (o1 + 11)]) (rest := []) (N := zm18) (F18 K (o0 + 11) (o1 + 11) h0.2.2.2.2.2.2.1 h1.2.2.2.2.2.2.1 _ u138 g137 hc139 (d + 0)) k17_103 lk_3_54 zm18_get na18 rfl (Nat.le_of_ble_eq_true rfl) h0.2.2.2.2.2.2.1.1 (by decide) rfl ?_
  refine y_aload_n k17_106 rfl rfl ?_
  refine y_getR k17_107 fk_3_39 h0.1 rfl ?_
  refine y_aload_n k17_110 rfl rfl ?_
  refine y_getR k17_111 fk_3_39 h1.1 rfl ?_
  obtain ⟨u141, g140, hc142, hE⟩ := zbd_some hE
  refine y_invVv (j := 18) (As := [.ref (o1 + 13)]) (rest := []) (N := zm18) (F18 K (o0 + 13) (o1 + 13) h0.2.2.2.2.2.2.2 h1.2.2.2.2.2.2.2 _ u141 g140 hc142 (d + 0)) k17_114 lk_3_54 zm18_get na18 rfl (Nat.le_of_ble_eq_true rfl) h0.2.2.2.2.2.2.2.1 (by decide) rfl ?_
  obtain ⟨rfl, rfl⟩ := zpr hE
  exact y_vret k17_117 rfl
-- AdjectiveCoupons$Text.sortOf
def f22 (K : Nat) (x0 : Int32) (g : zS) : Option (Int32 × zS) := zbd (f12 K x0 97 122 g) fun r110 g109 => if r110 = 0 then zbd (f12 K x0 48 57 g109) fun r113 g112 => if r113 = 0 then some (0, g112) else (some (2, g112)) else (some (1, g109))
theorem F22 {L : Nat} {xs : Nat → Int32} (K : Nat) (x0 : Int32) (g : zS) (r : Int32) (g' : zS) (hE : f22 K x0 g = some (r, g')) (d : Nat) : zE2 L xs (d + 2) 22 [.int x0] g (some (.int r)) g' := by
  refine y_ev (n := 0) (d := d + 1) (ls := [some (.int x0)]) zm22_get (by decide) (Nat.le_of_ble_eq_true rfl) rfl ?_
  unfold f22 at hE
  refine y_iload_n k22_0 rfl ?_
  refine y_bipush (v := 97) k22_1 b8_97 ?_
  refine y_bipush (v := 122) k22_3 b8_122 ?_
  obtain ⟨r110, g109, hc111, hE⟩ := zbd_some hE
  refine y_invSi (j := 12) (As := [.int x0, .int 97, .int 122]) (rest := []) (N := zm12) (F12 K x0 97 122 _ r110 g109 hc111 (d + 0)) k22_5 lk_1_77 zm12_get na12 rfl (Nat.le_of_ble_eq_true rfl) ?_
  by_cases c116 : r110 = 0
  · rw [if_pos c116] at hE
    refine y_ifT (tgt := 13) k22_8 (by decide) c116 ?_
    refine y_iload_n k22_13 rfl ?_
    refine y_bipush (v := 48) k22_14 b8_48 ?_
    refine y_bipush (v := 57) k22_16 b8_57 ?_
    obtain ⟨r113, g112, hc114, hE⟩ := zbd_some hE
    refine y_invSi (j := 12) (As := [.int x0, .int 48, .int 57]) (rest := []) (N := zm12) (F12 K x0 48 57 _ r113 g112 hc114 (d + 0)) k22_18 lk_1_77 zm12_get na12 rfl (Nat.le_of_ble_eq_true rfl) ?_
    by_cases c115 : r113 = 0
    · rw [if_pos c115] at hE
      refine y_ifT (tgt := 28) k22_21 (by decide) c115 ?_
      refine y_iconst (v := 0) k22_28 oi_0 ?_
      obtain ⟨rfl, rfl⟩ := zpr hE
      exact y_iret k22_29 rfl
    · rw [if_neg c115] at hE
      refine y_ifF 28 k22_21 (by decide) c115 ?_
      refine y_iconst (v := 2) k22_24 oi_2 ?_
      refine y_goto (tgt := 29) k22_25 (by decide) ?_
      obtain ⟨rfl, rfl⟩ := zpr hE
      exact y_iret k22_29 rfl
  · rw [if_neg c116] at hE
    refine y_ifF 13 k22_8 (by decide) c116 ?_
    refine y_iconst (v := 1) k22_11 oi_1 ?_
    obtain ⟨rfl, rfl⟩ := zpr hE
    exact y_iret k22_12 rfl
-- AdjectiveCoupons$Told.hasRoomFor
def f36 (K : Nat) (o0 : Nat) (x1 : Int32) (g : zS) : Option (Int32 × zS) := zbd (f12 K x1 1 5 g) fun r114 g113 => if r114 = 0 then zbd (f12 K x1 7 10 g113) fun r117 g116 => if r117 = 0 then if ¬ x1 = 6 then some (1, g116) else if 6 ≤ (g116 o0 2) then some (0, g116) else (some (1, g116)) else if 4 ≤ (g116 o0 1) then some (0, g116) else (some (1, g116)) else if 10 ≤ (g113 o0 0) then some (0, g113) else (some (1, g113))
theorem F36 {L : Nat} {xs : Nat → Int32} (K : Nat) (o0 : Nat) (x1 : Int32) (h0 : zTold o0) (g : zS) (r : Int32) (g' : zS) (hE : f36 K o0 x1 g = some (r, g')) (d : Nat) : zE2 L xs (d + 2) 36 [.ref o0, .int x1] g (some (.int r)) g' := by
  refine y_ev (n := 0) (d := d + 1) (ls := [some (.ref o0), some (.int x1)]) zm36_get (by decide) (Nat.le_of_ble_eq_true rfl) rfl ?_
  unfold f36 at hE
  refine y_iload_n k36_0 rfl ?_
  refine y_iconst (v := 1) k36_1 oi_1 ?_
  refine y_iconst (v := 5) k36_2 oi_5 ?_
  obtain ⟨r114, g113, hc115, hE⟩ := zbd_some hE
  refine y_invSi (j := 12) (As := [.int x1, .int 1, .int 5]) (rest := []) (N := zm12) (F12 K x1 1 5 _ r114 g113 hc115 (d + 0)) k36_3 lk_3_58 zm12_get na12 rfl (Nat.le_of_ble_eq_true rfl) ?_
  by_cases c124 : r114 = 0
  · rw [if_pos c124] at hE
    refine y_ifT (tgt := 24) k36_6 (by decide) c124 ?_
    refine y_iload_n k36_24 rfl ?_
    refine y_bipush (v := 7) k36_25 b8_7 ?_
    refine y_bipush (v := 10) k36_27 b8_10 ?_
    obtain ⟨r117, g116, hc118, hE⟩ := zbd_some hE
    refine y_invSi (j := 12) (As := [.int x1, .int 7, .int 10]) (rest := []) (N := zm12) (F12 K x1 7 10 _ r117 g116 hc118 (d + 0)) k36_29 lk_3_58 zm12_get na12 rfl (Nat.le_of_ble_eq_true rfl) ?_
    by_cases c122 : r117 = 0
    · rw [if_pos c122] at hE
      refine y_ifT (tgt := 49) k36_32 (by decide) c122 ?_
      refine y_iload_n k36_49 rfl ?_
      refine y_bipush (v := 6) k36_50 b8_6 ?_
      by_cases c120 : ¬ x1 = 6
      · rw [if_pos c120] at hE
        refine y_icT (tgt := 64) k36_52 (by decide) c120 ?_
        refine y_iconst (v := 1) k36_64 oi_1 ?_
        refine y_goto (tgt := 69) k36_65 (by decide) ?_
        obtain ⟨rfl, rfl⟩ := zpr hE
        exact y_zret k36_69 rfl (by decide)
      · rw [if_neg c120] at hE
        refine y_icF 64 k36_52 (by decide) c120 ?_
        refine y_aload_n k36_55 rfl rfl ?_
        refine y_getI k36_56 fk_3_48 h0.1 rfl ?_
        refine y_bipush (v := 6) k36_59 b8_6 ?_
        by_cases c119 : 6 ≤ (g116 o0 2)
        · rw [if_pos c119] at hE
          refine y_icT (tgt := 68) k36_61 (by decide) c119 ?_
          refine y_iconst (v := 0) k36_68 oi_0 ?_
          obtain ⟨rfl, rfl⟩ := zpr hE
          exact y_zret k36_69 rfl (by decide)
        · rw [if_neg c119] at hE
          refine y_icF 68 k36_61 (by decide) c119 ?_
          refine y_iconst (v := 1) k36_64 oi_1 ?_
          refine y_goto (tgt := 69) k36_65 (by decide) ?_
          obtain ⟨rfl, rfl⟩ := zpr hE
          exact y_zret k36_69 rfl (by decide)
    · rw [if_neg c122] at hE
      refine y_ifF 49 k36_32 (by decide) c122 ?_
      refine y_aload_n k36_35 rfl rfl ?_
      refine y_getI k36_36 fk_3_45 h0.1 rfl ?_
      refine y_iconst (v := 4) k36_39 oi_4 ?_
      by_cases c121 : 4 ≤ (g116 o0 1)
      · rw [if_pos c121] at hE
        refine y_icT (tgt := 47) k36_40 (by decide) c121 ?_
        refine y_iconst (v := 0) k36_47 oi_0 ?_
        obtain ⟨rfl, rfl⟩ := zpr hE
        exact y_zret k36_48 rfl (by decide)
      · rw [if_neg c121] at hE
        refine y_icF 47 k36_40 (by decide) c121 ?_
        refine y_iconst (v := 1) k36_43 oi_1 ?_
        refine y_goto (tgt := 48) k36_44 (by decide) ?_
        obtain ⟨rfl, rfl⟩ := zpr hE
        exact y_zret k36_48 rfl (by decide)
  · rw [if_neg c124] at hE
    refine y_ifF 24 k36_6 (by decide) c124 ?_
    refine y_aload_n k36_9 rfl rfl ?_
    refine y_getI k36_10 fk_3_42 h0.1 rfl ?_
    refine y_bipush (v := 10) k36_13 b8_10 ?_
    by_cases c123 : 10 ≤ (g113 o0 0)
    · rw [if_pos c123] at hE
      refine y_icT (tgt := 22) k36_15 (by decide) c123 ?_
      refine y_iconst (v := 0) k36_22 oi_0 ?_
      obtain ⟨rfl, rfl⟩ := zpr hE
      exact y_zret k36_23 rfl (by decide)
    · rw [if_neg c123] at hE
      refine y_icF 22 k36_15 (by decide) c123 ?_
      refine y_iconst (v := 1) k36_18 oi_1 ?_
      refine y_goto (tgt := 23) k36_19 (by decide) ?_
      obtain ⟨rfl, rfl⟩ := zpr hE
      exact y_zret k36_23 rfl (by decide)
-- AdjectiveCoupons$Told.hearChange
def f39 (K : Nat) (o0 : Nat) (x1 : Int32) (x2 : Int32) (x3 : Int32) (g : zS) : Option (Unit × zS) := zbd (f14 K (o0 + 9) (g o0 2) x1 g) fun _ g110 => zbd (f14 K (o0 + 11) (g110 o0 2) x2 g110) fun _ g113 => zbd (f14 K (o0 + 13) (g113 o0 2) x3 g113) fun _ g116 => some ((), (zup g116 o0 2 ((g116 o0 2) + 1)))
theorem F39 {L : Nat} {xs : Nat → Int32} (K : Nat) (o0 : Nat) (x1 : Int32) (x2 : Int32) (x3 : Int32) (h0 : zTold o0) (g : zS) (r : Unit) (g' : zS) (hE : f39 K o0 x1 x2 x3 g = some (r, g')) (d : Nat) : zE2 L xs (d + 2) 39 [.ref o0, .int x1, .int x2, .int x3] g none g' := by
  refine y_ev (n := 0) (d := d + 1) (ls := [some (.ref o0), some (.int x1), some (.int x2), some (.int x3)]) zm39_get (by decide) (Nat.le_of_ble_eq_true rfl) rfl ?_
  unfold f39 at hE
  refine y_aload_n k39_0 rfl rfl ?_
  refine y_getR k39_1 fk_3_33 h0.1 rfl ?_
  refine y_aload_n k39_4 rfl rfl ?_
  refine y_getI k39_5 fk_3_48 h0.1 rfl ?_
  refine y_iload_n k39_8 rfl ?_
  obtain ⟨u111, g110, hc112, hE⟩ := zbd_some hE
  refine y_invVv (j := 14) (As := [.int (g o0 2), .int x1]) (rest := []) (N := zm14) (F14 K (o0 + 9) (g o0 2) x1 h0.2.2.2.2.2.1 _ u111 g110 hc112 (d + 0)) k39_9 lk_3_65 zm14_get na14 rfl (Nat.le_of_ble_eq_true rfl) h0.2.2.2.2.2.1.1 (by decide) rfl ?_
  refine y_aload_n k39_12 rfl rfl ?_
  refine y_getR k39_13 fk_3_36 h0.1 rfl ?_
  refine y_aload_n k39_16 rfl rfl ?_
  refine y_getI k39_17 fk_3_48 h0.1 rfl ?_
  refine y_iload_n k39_20 rfl ?_
  obtain ⟨u114, g113, hc115, hE⟩ := zbd_some hE
  refine y_invVv (j := 14) (As := [.int (g110 o0 2), .int x2]) (rest := []) (N := zm14) (F14 K (o0 + 11) (g110 o0 2) x2 h0.2.2.2.2.2.2.1 _ u114 g113 hc115 (d + 0)) k39_21 lk_3_65 zm14_get na14 rfl (Nat.le_of_ble_eq_true rfl) h0.2.2.2.2.2.2.1.1 (by decide) rfl ?_
  refine y_aload_n k39_24 rfl rfl ?_
  refine y_getR k39_25 fk_3_39 h0.1 rfl ?_
  refine y_aload_n k39_28 rfl rfl ?_
  refine y_getI k39_29 fk_3_48 h0.1 rfl ?_
  refine y_iload_n k39_32 rfl ?_
  obtain ⟨u117, g116, hc118, hE⟩ := zbd_some hE
  refine y_invVv (j := 14) (As := [.int (g113 o0 2), .int x3]) (rest := []) (N := zm14) (F14 K (o0 + 13) (g113 o0 2) x3 h0.2.2.2.2.2.2.2 _ u117 g116 hc118 (d + 0)) k39_33 lk_3_65 zm14_get na14 rfl (Nat.le_of_ble_eq_true rfl) h0.2.2.2.2.2.2.2.1 (by decide) rfl ?_
  refine y_aload_n k39_36 rfl rfl ?_
  refine y_dup k39_37 rfl ?_
  refine y_getI k39_38 fk_3_48 h0.1 rfl ?_
  refine y_iconst (v := 1) k39_41 oi_1 ?_
  refine y_iadd k39_42 ?_
  refine y_putI k39_43 fk_3_48 h0.1 rfl pi_3_2.1 pi_3_2.2 ?_
  obtain ⟨rfl, rfl⟩ := zpr hE
  exact y_vret k39_46 rfl
-- AdjectiveCoupons$Text.mostIn
def f40 (K : Nat) (x0 : Int32) (g : zS) : Option (Int32 × zS) := zbd (f12 K x0 1 5 g) fun r111 g110 => if r111 = 0 then zbd (f12 K x0 7 10 g110) fun r114 g113 => if r114 = 0 then if ¬ x0 = 11 then some ((-1), g113) else (some (20, g113)) else (some (20, g113)) else (some (30, g110))
theorem F40 {L : Nat} {xs : Nat → Int32} (K : Nat) (x0 : Int32) (g : zS) (r : Int32) (g' : zS) (hE : f40 K x0 g = some (r, g')) (d : Nat) : zE2 L xs (d + 2) 40 [.int x0] g (some (.int r)) g' := by
  refine y_ev (n := 0) (d := d + 1) (ls := [some (.int x0)]) zm40_get (by decide) (Nat.le_of_ble_eq_true rfl) rfl ?_
  unfold f40 at hE
  refine y_iload_n k40_0 rfl ?_
  refine y_iconst (v := 1) k40_1 oi_1 ?_
  refine y_iconst (v := 5) k40_2 oi_5 ?_
  obtain ⟨r111, g110, hc112, hE⟩ := zbd_some hE
  refine y_invSi (j := 12) (As := [.int x0, .int 1, .int 5]) (rest := []) (N := zm12) (F12 K x0 1 5 _ r111 g110 hc112 (d + 0)) k40_3 lk_1_77 zm12_get na12 rfl (Nat.le_of_ble_eq_true rfl) ?_
  by_cases c118 : r111 = 0
  · rw [if_pos c118] at hE
    refine y_ifT (tgt := 12) k40_6 (by decide) c118 ?_
    refine y_iload_n k40_12 rfl ?_
    refine y_bipush (v := 7) k40_13 b8_7 ?_
    refine y_bipush (v := 10) k40_15 b8_10 ?_
    obtain ⟨r114, g113, hc115, hE⟩ := zbd_some hE
    refine y_invSi (j := 12) (As := [.int x0, .int 7, .int 10]) (rest := []) (N := zm12) (F12 K x0 7 10 _ r114 g113 hc115 (d + 0)) k40_17 lk_1_77 zm12_get na12 rfl (Nat.le_of_ble_eq_true rfl) ?_
    by_cases c117 : r114 = 0
    · rw [if_pos c117] at hE
      refine y_ifT (tgt := 26) k40_20 (by decide) c117 ?_
      refine y_iload_n k40_26 rfl ?_
      refine y_bipush (v := 11) k40_27 b8_11 ?_
      by_cases c116 : ¬ x0 = 11
      · rw [if_pos c116] at hE
        refine y_icT (tgt := 37) k40_29 (by decide) c116 ?_
        refine y_iconst (v := (-1)) k40_37 oi_m1 ?_
        obtain ⟨rfl, rfl⟩ := zpr hE
        exact y_iret k40_38 rfl
      · rw [if_neg c116] at hE
        refine y_icF 37 k40_29 (by decide) c116 ?_
        refine y_bipush (v := 20) k40_32 b8_20 ?_
        refine y_goto (tgt := 38) k40_34 (by decide) ?_
        obtain ⟨rfl, rfl⟩ := zpr hE
        exact y_iret k40_38 rfl
    · rw [if_neg c117] at hE
      refine y_ifF 26 k40_20 (by decide) c117 ?_
      refine y_bipush (v := 20) k40_23 b8_20 ?_
      obtain ⟨rfl, rfl⟩ := zpr hE
      exact y_iret k40_25 rfl
  · rw [if_neg c118] at hE
    refine y_ifF 12 k40_6 (by decide) c118 ?_
    refine y_bipush (v := 30) k40_9 b8_30 ?_
    obtain ⟨rfl, rfl⟩ := zpr hE
    exact y_iret k40_11 rfl
-- AdjectiveCoupons$Told.hear
def f41 (K : Nat) (o0 : Nat) (x1 : Int32) (x2 : Int32) (g : zS) : Option (Unit × zS) := if ¬ x1 = 0 then if 5 < x1 then if 10 < x1 then if ¬ x1 = 11 then if 14 < x1 then some ((), (zup g o0 4 0)) else (some ((), (zup g o0 4 ((g o0 4) ||| (1 <<< ((x1 - 12) &&& 31)))))) else (some ((), (zup g o0 3 x2))) else (zbd (f14 K (o0 + 5) (g o0 1) (x1 - 7) g) fun _ g123 => zbd (f14 K (o0 + 7) (g123 o0 1) x2 g123) fun _ g126 => some ((), (zup g126 o0 1 ((g126 o0 1) + 1)))) else (zbd (f14 K (o0 + 1) (g o0 0) (x1 - 1) g) fun _ g130 => zbd (f14 K (o0 + 3) (g130 o0 0) x2 g130) fun _ g133 => some ((), (zup g133 o0 0 ((g133 o0 0) + 1)))) else (zbd (f42 K o0 g) fun _ g137 => some ((), g137))
theorem F41 {L : Nat} {xs : Nat → Int32} (K : Nat) (o0 : Nat) (x1 : Int32) (x2 : Int32) (h0 : zTold o0) (g : zS) (r : Unit) (g' : zS) (hE : f41 K o0 x1 x2 g = some (r, g')) (d : Nat) : zE2 L xs (d + 2) 41 [.ref o0, .int x1, .int x2] g none g' := by
  refine y_ev (n := 0) (d := d + 1) (ls := [some (.ref o0), some (.int x1), some (.int x2)]) zm41_get (by decide) (Nat.le_of_ble_eq_true rfl) rfl ?_
  unfold f41 at hE
  refine y_iload_n k41_0 rfl ?_
  by_cases c140 : ¬ x1 = 0
  · rw [if_pos c140] at hE
    refine y_ifT (tgt := 11) k41_1 (by decide) c140 ?_
    refine y_iload_n k41_11 rfl ?_
    refine y_iconst (v := 5) k41_12 oi_5 ?_
    by_cases c136 : 5 < x1
    · rw [if_pos c136] at hE
      refine y_icT (tgt := 55) k41_13 (by decide) c136 ?_
      refine y_iload_n k41_55 rfl ?_
      refine y_bipush (v := 10) k41_56 b8_10 ?_
      by_cases c129 : 10 < x1
      · rw [if_pos c129] at hE
        refine y_icT (tgt := 101) k41_58 (by decide) c129 ?_
        refine y_iload_n k41_101 rfl ?_
        refine y_bipush (v := 11) k41_102 b8_11 ?_
        by_cases c122 : ¬ x1 = 11
        · rw [if_pos c122] at hE
          refine y_icT (tgt := 115) k41_104 (by decide) c122 ?_
          refine y_iload_n k41_115 rfl ?_
          refine y_bipush (v := 14) k41_116 b8_14 ?_
          by_cases c121 : 14 < x1
          · rw [if_pos c121] at hE
            refine y_icT (tgt := 139) k41_118 (by decide) c121 ?_
            refine y_aload_n k41_139 rfl rfl ?_
            refine y_iconst (v := 0) k41_140 oi_0 ?_
            refine y_putI k41_141 fk_3_51 h0.1 rfl pi_3_4.1 pi_3_4.2 ?_
            obtain ⟨rfl, rfl⟩ := zpr hE
            exact y_vret k41_144 rfl
          · rw [if_neg c121] at hE
            refine y_icF 139 k41_118 (by decide) c121 ?_
            refine y_aload_n k41_121 rfl rfl ?_
            refine y_dup k41_122 rfl ?_
            refine y_getI k41_123 fk_3_51 h0.1 rfl ?_
            refine y_iconst (v := 1) k41_126 oi_1 ?_
            refine y_iload_n k41_127 rfl ?_
            refine y_bipush (v := 12) k41_128 b8_12 ?_
            refine y_isub k41_130 ?_
            refine y_ishl k41_131 ?_
            refine y_ior k41_132 ?_
            refine y_putI k41_133 fk_3_51 h0.1 rfl pi_3_4.1 pi_3_4.2 ?_
            refine y_goto (tgt := 144) k41_136 (by decide) ?_
            obtain ⟨rfl, rfl⟩ := zpr hE
            exact y_vret k41_144 rfl
        · rw [if_neg c122] at hE
          refine y_icF 115 k41_104 (by decide) c122 ?_
          refine y_aload_n k41_107 rfl rfl ?_
          refine y_iload_n k41_108 rfl ?_
          refine y_putI k41_109 fk_3_9 h0.1 rfl pi_3_3.1 pi_3_3.2 ?_
          refine y_goto (tgt := 144) k41_112 (by decide) ?_
          obtain ⟨rfl, rfl⟩ := zpr hE
          exact y_vret k41_144 rfl
      · rw [if_neg c129] at hE
        refine y_icF 101 k41_58 (by decide) c129 ?_
        refine y_aload_n k41_61 rfl rfl ?_
        refine y_getR k41_62 fk_3_27 h0.1 rfl ?_
        refine y_aload_n k41_65 rfl rfl ?_
        refine y_getI k41_66 fk_3_45 h0.1 rfl ?_
        refine y_iload_n k41_69 rfl ?_
        refine y_bipush (v := 7) k41_70 b8_7 ?_
        refine y_isub k41_72 ?_
        obtain ⟨u124, g123, hc125, hE⟩ := zbd_some hE
        refine y_invVv (j := 14) (As := [.int (g o0 1), .int (x1 - 7)]) (rest := []) (N := zm14) (F14 K (o0 + 5) (g o0 1) (x1 - 7) h0.2.2.2.1 _ u124 g123 hc125 (d + 0)) k41_73 lk_3_65 zm14_get na14 rfl (Nat.le_of_ble_eq_true rfl) h0.2.2.2.1.1 (by decide) rfl ?_
        refine y_aload_n k41_76 rfl rfl ?_
        refine y_getR k41_77 fk_3_30 h0.1 rfl ?_
        refine y_aload_n k41_80 rfl rfl ?_
        refine y_getI k41_81 fk_3_45 h0.1 rfl ?_
        refine y_iload_n k41_84 rfl ?_
        obtain ⟨u127, g126, hc128, hE⟩ := zbd_some hE
        refine y_invVv (j := 14) (As := [.int (g123 o0 1), .int x2]) (rest := []) (N := zm14) (F14 K (o0 + 7) (g123 o0 1) x2 h0.2.2.2.2.1 _ u127 g126 hc128 (d + 0)) k41_85 lk_3_65 zm14_get na14 rfl (Nat.le_of_ble_eq_true rfl) h0.2.2.2.2.1.1 (by decide) rfl ?_
        refine y_aload_n k41_88 rfl rfl ?_
        refine y_dup k41_89 rfl ?_
        refine y_getI k41_90 fk_3_45 h0.1 rfl ?_
        refine y_iconst (v := 1) k41_93 oi_1 ?_
        refine y_iadd k41_94 ?_
        refine y_putI k41_95 fk_3_45 h0.1 rfl pi_3_1.1 pi_3_1.2 ?_
        refine y_goto (tgt := 144) k41_98 (by decide) ?_
        obtain ⟨rfl, rfl⟩ := zpr hE
        exact y_vret k41_144 rfl
    · rw [if_neg c136] at hE
      refine y_icF 55 k41_13 (by decide) c136 ?_
      refine y_aload_n k41_16 rfl rfl ?_
      refine y_getR k41_17 fk_3_20 h0.1 rfl ?_
      refine y_aload_n k41_20 rfl rfl ?_
      refine y_getI k41_21 fk_3_42 h0.1 rfl ?_
      refine y_iload_n k41_24 rfl ?_
      refine y_iconst (v := 1) k41_25 oi_1 ?_
      refine y_isub k41_26 ?_
      obtain ⟨u131, g130, hc132, hE⟩ := zbd_some hE
      refine y_invVv (j := 14) (As := [.int (g o0 0), .int (x1 - 1)]) (rest := []) (N := zm14) (F14 K (o0 + 1) (g o0 0) (x1 - 1) h0.2.1 _ u131 g130 hc132 (d + 0)) k41_27 lk_3_65 zm14_get na14 rfl (Nat.le_of_ble_eq_true rfl) h0.2.1.1 (by decide) rfl ?_
      refine y_aload_n k41_30 rfl rfl ?_
      refine y_getR k41_31 fk_3_24 h0.1 rfl ?_
      refine y_aload_n k41_34 rfl rfl ?_
      refine y_getI k41_35 fk_3_42 h0.1 rfl ?_
      refine y_iload_n k41_38 rfl ?_
      obtain ⟨u134, g133, hc135, hE⟩ := zbd_some hE
      refine y_invVv (j := 14) (As := [.int (g130 o0 0), .int x2]) (rest := []) (N := zm14) (F14 K (o0 + 3) (g130 o0 0) x2 h0.2.2.1 _ u134 g133 hc135 (d + 0)) k41_39 lk_3_65 zm14_get na14 rfl (Nat.le_of_ble_eq_true rfl) h0.2.2.1.1 (by decide) rfl ?_
      refine y_aload_n k41_42 rfl rfl ?_
      refine y_dup k41_43 rfl ?_
      refine y_getI k41_44 fk_3_42 h0.1 rfl ?_
      refine y_iconst (v := 1) k41_47 oi_1 ?_
      refine y_iadd k41_48 ?_
      refine y_putI k41_49 fk_3_42 h0.1 rfl pi_3_0.1 pi_3_0.2 ?_
      refine y_goto (tgt := 144) k41_52 (by decide) ?_
      obtain ⟨rfl, rfl⟩ := zpr hE
      exact y_vret k41_144 rfl
  · rw [if_neg c140] at hE
    refine y_ifF 11 k41_1 (by decide) c140 ?_
    refine y_aload_n k41_4 rfl rfl ?_
    obtain ⟨u138, g137, hc139, hE⟩ := zbd_some hE
    refine y_invVv (j := 42) (As := []) (rest := []) (N := zm42) (F42 K o0 h0 _ u138 g137 hc139 (d + 0)) k41_5 lk_3_62 zm42_get na42 rfl (Nat.le_of_ble_eq_true rfl) h0.1 (by decide) rfl ?_
    refine y_goto (tgt := 144) k41_8 (by decide) ?_
    obtain ⟨rfl, rfl⟩ := zpr hE
    exact y_vret k41_144 rfl
-- AdjectiveCoupons$State.begin
def f44_49 (K : Nat) : Nat → Nat → Int32 → Int32 → Int32 → zS → Option (Unit × zS)
  | 0, _, _, _, _, _ => none
  | n + 1, o0, x1, x2, x3, g => if x1 ≤ x3 then some ((), g) else (zbd (f14 K (o0 + 1) x3 x2 g) fun _ g158 => zbd (f14 K (o0 + 3) x3 10 g158) fun _ g161 => (f44_49 K n) o0 x1 x2 (x3 + 1) g161)
def f44 (K : Nat) (o0 : Nat) (x1 : Int32) (x2 : Int32) (g : zS) : Option (Unit × zS) := zbd (f45 K (o0 + 1) (zup g o0 0 0)) fun _ g165 => zbd (f45 K (o0 + 3) g165) fun _ g168 => zbd (f45 K (o0 + 5) g168) fun _ g171 => zbd (f45 K (o0 + 7) g171) fun _ g174 => zbd (f45 K (o0 + 9) g174) fun _ g177 => zbd (f45 K (o0 + 11) g177) fun _ g180 => f44_49 K K o0 x1 x2 0 g180
theorem F44_49 {L : Nat} {xs : Nat → Int32} {d : Nat} (K : Nat) : ∀ (n : Nat) (o0 : Nat) (x1 : Int32) (x2 : Int32) (x3 : Int32) (h0 : zState o0) (g : zS) (r : Unit) (g' : zS) (hE : f44_49 K n o0 x1 x2 x3 g = some (r, g')), zG2 L xs (d + 1) zm44 49 [some (.ref o0), some (.int x1), some (.int x2), some (.int x3)] [] g none g' := by
  intro n
  induction n with
  | zero => intro o0 x1 x2 x3 h0 g r g' hE; cases hE
  | succ n ih =>
    intro o0 x1 x2 x3 h0 g r g' hE
    rw [f44_49] at hE
    refine y_iload_n k44_49 rfl ?_
    refine y_iload_n k44_50 rfl ?_
    by_cases c164 : x1 ≤ x3
    · rw [if_pos c164] at hE
      refine y_icT (tgt := 79) k44_51 (by decide) c164 ?_
      obtain ⟨rfl, rfl⟩ := zpr hE
      exact y_vret k44_79 rfl
    · rw [if_neg c164] at hE
      refine y_icF 79 k44_51 (by decide) c164 ?_
      refine y_aload_n k44_54 rfl rfl ?_
      refine y_getR k44_55 fk_4_14 h0.1 rfl ?_
      refine y_iload_n k44_58 rfl ?_
      refine y_iload_n k44_59 rfl ?_
      obtain ⟨u159, g158, hc160, hE⟩ := zbd_some hE
      refine y_invVv (j := 14) (As := [.int x3, .int x2]) (rest := []) (N := zm14) (F14 K (o0 + 1) x3 x2 h0.2.1 _ u159 g158 hc160 (d + 0)) k44_60 lk_4_42 zm14_get na14 rfl (Nat.le_of_ble_eq_true rfl) h0.2.1.1 (by decide) rfl ?_
      refine y_aload_n k44_63 rfl rfl ?_
      refine y_getR k44_64 fk_4_20 h0.1 rfl ?_
      refine y_iload_n k44_67 rfl ?_
      refine y_bipush (v := 10) k44_68 b8_10 ?_
      obtain ⟨u162, g161, hc163, hE⟩ := zbd_some hE
      refine y_invVv (j := 14) (As := [.int x3, .int 10]) (rest := []) (N := zm14) (F14 K (o0 + 3) x3 10 h0.2.2.1 _ u162 g161 hc163 (d + 0)) k44_70 lk_4_42 zm14_get na14 rfl (Nat.le_of_ble_eq_true rfl) h0.2.2.1.1 (by decide) rfl ?_
      refine y_iinc (v := (x3 + 1)) (ls2 := [some (.ref o0), some (.int x1), some (.int x2), some (.int (x3 + 1))]) k44_73 rfl rfl (by rw [oi_1]) rfl ?_
      refine y_goto (tgt := 49) k44_76 (by decide) ?_
      exact ih o0 x1 x2 (x3 + 1) h0 _ _ _ hE
theorem F44 {L : Nat} {xs : Nat → Int32} (K : Nat) (o0 : Nat) (x1 : Int32) (x2 : Int32) (h0 : zState o0) (g : zS) (r : Unit) (g' : zS) (hE : f44 K o0 x1 x2 g = some (r, g')) (d : Nat) : zE2 L xs (d + 2) 44 [.ref o0, .int x1, .int x2] g none g' := by
  refine y_ev (n := 0) (d := d + 1) (ls := [some (.ref o0), some (.int x1), some (.int x2), none]) zm44_get (by decide) (Nat.le_of_ble_eq_true rfl) rfl ?_
  unfold f44 at hE
  refine y_aload_n k44_0 rfl rfl ?_
  refine y_iconst (v := 0) k44_1 oi_0 ?_
  refine y_putI k44_2 fk_4_35 h0.1 rfl pi_4_0.1 pi_4_0.2 ?_
  refine y_aload_n k44_5 rfl rfl ?_
  refine y_getR k44_6 fk_4_14 h0.1 rfl ?_
  obtain ⟨u166, g165, hc167, hE⟩ := zbd_some hE
  refine y_invVv (j := 45) (As := []) (rest := []) (N := zm45) (F45 K (o0 + 1) h0.2.1 _ u166 g165 hc167 (d + 0)) k44_9 lk_4_39 zm45_get na45 rfl (Nat.le_of_ble_eq_true rfl) h0.2.1.1 (by decide) rfl ?_
  refine y_aload_n k44_12 rfl rfl ?_
  refine y_getR k44_13 fk_4_20 h0.1 rfl ?_
  obtain ⟨u169, g168, hc170, hE⟩ := zbd_some hE
  refine y_invVv (j := 45) (As := []) (rest := []) (N := zm45) (F45 K (o0 + 3) h0.2.2.1 _ u169 g168 hc170 (d + 0)) k44_16 lk_4_39 zm45_get na45 rfl (Nat.le_of_ble_eq_true rfl) h0.2.2.1.1 (by decide) rfl ?_
  refine y_aload_n k44_19 rfl rfl ?_
  refine y_getR k44_20 fk_4_23 h0.1 rfl ?_
  obtain ⟨u172, g171, hc173, hE⟩ := zbd_some hE
  refine y_invVv (j := 45) (As := []) (rest := []) (N := zm45) (F45 K (o0 + 5) h0.2.2.2.1 _ u172 g171 hc173 (d + 0)) k44_23 lk_4_39 zm45_get na45 rfl (Nat.le_of_ble_eq_true rfl) h0.2.2.2.1.1 (by decide) rfl ?_
  refine y_aload_n k44_26 rfl rfl ?_
  refine y_getR k44_27 fk_4_26 h0.1 rfl ?_
  obtain ⟨u175, g174, hc176, hE⟩ := zbd_some hE
  refine y_invVv (j := 45) (As := []) (rest := []) (N := zm45) (F45 K (o0 + 7) h0.2.2.2.2.1 _ u175 g174 hc176 (d + 0)) k44_30 lk_4_39 zm45_get na45 rfl (Nat.le_of_ble_eq_true rfl) h0.2.2.2.2.1.1 (by decide) rfl ?_
  refine y_aload_n k44_33 rfl rfl ?_
  refine y_getR k44_34 fk_4_29 h0.1 rfl ?_
  obtain ⟨u178, g177, hc179, hE⟩ := zbd_some hE
  refine y_invVv (j := 45) (As := []) (rest := []) (N := zm45) (F45 K (o0 + 9) h0.2.2.2.2.2.1 _ u178 g177 hc179 (d + 0)) k44_37 lk_4_39 zm45_get na45 rfl (Nat.le_of_ble_eq_true rfl) h0.2.2.2.2.2.1.1 (by decide) rfl ?_
  refine y_aload_n k44_40 rfl rfl ?_
  refine y_getR k44_41 fk_4_32 h0.1 rfl ?_
  obtain ⟨u181, g180, hc182, hE⟩ := zbd_some hE
  refine y_invVv (j := 45) (As := []) (rest := []) (N := zm45) (F45 K (o0 + 11) h0.2.2.2.2.2.2 _ u181 g180 hc182 (d + 0)) k44_44 lk_4_39 zm45_get na45 rfl (Nat.le_of_ble_eq_true rfl) h0.2.2.2.2.2.2.1 (by decide) rfl ?_
  refine y_iconst (v := 0) k44_47 oi_0 ?_
  refine y_istore_n (ls2 := [some (.ref o0), some (.int x1), some (.int x2), some (.int 0)]) k44_48 rfl (Nat.le_of_ble_eq_true rfl) rfl ?_
  exact F44_49 K K o0 x1 x2 0 h0 _ _ _ hE
-- AdjectiveCoupons.isWord
def f48 (K : Nat) (x1 : Int32) (g : zS) : Option (Int32 × zS) := zbd (f12 K x1 0 ((g 4 0) - 1) g) fun r105 g104 => if r105 = 0 ∨ r105 = 1 then some (r105, g104) else none
theorem F48 {L : Nat} {xs : Nat → Int32} (K : Nat) (x1 : Int32) (g : zS) (r : Int32) (g' : zS) (hE : f48 K x1 g = some (r, g')) (d : Nat) : zE2 L xs (d + 2) 48 [.ref 0, .int x1] g (some (.int r)) g' := by
  refine y_ev (n := 0) (d := d + 1) (ls := [some (.ref 0), some (.int x1)]) zm48_get (by decide) (Nat.le_of_ble_eq_true rfl) rfl ?_
  unfold f48 at hE
  refine y_iload_n k48_0 rfl ?_
  refine y_iconst (v := 0) k48_1 oi_0 ?_
  refine y_aload_n k48_2 rfl rfl ?_
  refine y_getR k48_3 fk_0_19 sh0 rfl ?_
  refine y_getI k48_6 fk_0_250 sh4 rfl ?_
  refine y_iconst (v := 1) k48_9 oi_1 ?_
  refine y_isub k48_10 ?_
  obtain ⟨r105, g104, hc106, hE⟩ := zbd_some hE
  refine y_invSi (j := 12) (As := [.int x1, .int 0, .int ((g 4 0) - 1)]) (rest := []) (N := zm12) (F12 K x1 0 ((g 4 0) - 1) _ r105 g104 hc106 (d + 0)) k48_11 lk_0_68 zm12_get na12 rfl (Nat.le_of_ble_eq_true rfl) ?_
  obtain ⟨hc, hE⟩ := zif_some hE
  obtain ⟨rfl, rfl⟩ := zpr hE
  exact y_zret k48_14 rfl hc
-- AdjectiveCoupons$Told.kindIn
def f49_75 (K : Nat) (k15 : Nat → Int32 → Int32 → Int32 → Int32 → Int32 → zS → Option (Int32 × zS)) (o0 : Nat) (x1 : Int32) (x2 : Int32) (x3 : Int32) (x4 : Int32) (x5 : Int32) (g : zS) : Option (Int32 × zS) := k15 o0 x1 x2 x3 x4 (x5 + 1) g
def f49_15 (K : Nat) : Nat → Nat → Int32 → Int32 → Int32 → Int32 → Int32 → zS → Option (Int32 × zS)
  | 0, _, _, _, _, _, _, _ => none
  | n + 1, o0, x1, x2, x3, x4, x5, g => if (g o0 2) ≤ x5 then some (x3, g) else (zbd (f21 K (o0 + 13) x5 g) fun r147 g146 => zbd (f21 K (o0 + 9) x5 g146) fun r150 g149 => if ¬ r150 = x1 then f49_75 K (f49_15 K n) o0 x1 x2 x3 x4 x5 g149 else if x2 < r147 then f49_75 K (f49_15 K n) o0 x1 x2 x3 x4 x5 g149 else if r147 < x4 then f49_75 K (f49_15 K n) o0 x1 x2 x3 x4 x5 g149 else (zbd (f21 K (o0 + 11) x5 g149) fun r153 g152 => f49_75 K (f49_15 K n) o0 x1 x2 r153 r147 x5 g152))
def f49 (K : Nat) (o0 : Nat) (x1 : Int32) (x2 : Int32) (g : zS) : Option (Int32 × zS) := zbd (f21 K (o0 + 1) x1 g) fun r160 g159 => f49_15 K K o0 x1 x2 r160 (-1) 0 g159
theorem F49_75 {L : Nat} {xs : Nat → Int32} {d : Nat} (K : Nat) (k15 : Nat → Int32 → Int32 → Int32 → Int32 → Int32 → zS → Option (Int32 × zS)) (hk15 : ∀ (o0 : Nat) (x1 : Int32) (x2 : Int32) (x3 : Int32) (x4 : Int32) (x5 : Int32) (h0 : zTold o0) (g : zS) (r : Int32) (g' : zS), k15 o0 x1 x2 x3 x4 x5 g = some (r, g') → zG2 L xs (d + 1) zm49 15 [some (.ref o0), some (.int x1), some (.int x2), some (.int x3), some (.int x4), some (.int x5), none] [] g (some (.int r)) g') (o0 : Nat) (x1 : Int32) (x2 : Int32) (x3 : Int32) (x4 : Int32) (x5 : Int32) (h0 : zTold o0) (g : zS) (r : Int32) (g' : zS) (hE : f49_75 K k15 o0 x1 x2 x3 x4 x5 g = some (r, g')) : zG2 L xs (d + 1) zm49 75 [some (.ref o0), some (.int x1), some (.int x2), some (.int x3), some (.int x4), some (.int x5), none] [] g (some (.int r)) g' := by
  unfold f49_75 at hE
  refine y_iinc (v := (x5 + 1)) (ls2 := [some (.ref o0), some (.int x1), some (.int x2), some (.int x3), some (.int x4), some (.int (x5 + 1)), none]) k49_75 rfl rfl (by rw [oi_1]) rfl ?_
  refine y_goto (tgt := 15) k49_78 (by decide) ?_
  exact hk15 o0 x1 x2 x3 x4 (x5 + 1) h0 _ _ _ hE
theorem F49_15 {L : Nat} {xs : Nat → Int32} {d : Nat} (K : Nat) : ∀ (n : Nat) (o0 : Nat) (x1 : Int32) (x2 : Int32) (x3 : Int32) (x4 : Int32) (x5 : Int32) (h0 : zTold o0) (g : zS) (r : Int32) (g' : zS) (hE : f49_15 K n o0 x1 x2 x3 x4 x5 g = some (r, g')), zG2 L xs (d + 1) zm49 15 [some (.ref o0), some (.int x1), some (.int x2), some (.int x3), some (.int x4), some (.int x5), none] [] g (some (.int r)) g' := by
  intro n
  induction n with
  | zero => intro o0 x1 x2 x3 x4 x5 h0 g r g' hE; cases hE
  | succ n ih =>
    intro o0 x1 x2 x3 x4 x5 h0 g r g' hE
    rw [f49_15] at hE
    refine y_iload k49_15 rfl ?_
    refine y_aload_n k49_17 rfl rfl ?_
    refine y_getI k49_18 fk_3_48 h0.1 rfl ?_
    by_cases c158 : (g o0 2) ≤ x5
    · rw [if_pos c158] at hE
      refine y_icT (tgt := 81) k49_21 (by decide) c158 ?_
      refine y_iload_n k49_81 rfl ?_
      obtain ⟨rfl, rfl⟩ := zpr hE
      exact y_iret k49_82 rfl
    · rw [if_neg c158] at hE
      refine y_icF 81 k49_21 (by decide) c158 ?_
      refine y_aload_n k49_24 rfl rfl ?_
      refine y_getR k49_25 fk_3_39 h0.1 rfl ?_
      refine y_iload k49_28 rfl ?_
      obtain ⟨r147, g146, hc148, hE⟩ := zbd_some hE
      refine y_invVi (j := 21) (As := [.int x5]) (rest := []) (N := zm21) (F21 K (o0 + 13) x5 h0.2.2.2.2.2.2.2 _ r147 g146 hc148 (d + 0)) k49_30 lk_3_69 zm21_get na21 rfl (Nat.le_of_ble_eq_true rfl) h0.2.2.2.2.2.2.2.1 (by decide) rfl ?_
      refine y_istore (ls2 := [some (.ref o0), some (.int x1), some (.int x2), some (.int x3), some (.int x4), some (.int x5), some (.int r147)]) k49_33 rfl (Nat.le_of_ble_eq_true rfl) rfl ?_
      refine y_aload_n k49_35 rfl rfl ?_
      refine y_getR k49_36 fk_3_33 h0.1 rfl ?_
      refine y_iload k49_39 rfl ?_
      obtain ⟨r150, g149, hc151, hE⟩ := zbd_some hE
      refine y_invVi (j := 21) (As := [.int x5]) (rest := []) (N := zm21) (F21 K (o0 + 9) x5 h0.2.2.2.2.2.1 _ r150 g149 hc151 (d + 0)) k49_41 lk_3_69 zm21_get na21 rfl (Nat.le_of_ble_eq_true rfl) h0.2.2.2.2.2.1.1 (by decide) rfl ?_
      refine y_iload_n k49_44 rfl ?_
      by_cases c157 : ¬ r150 = x1
      · rw [if_pos c157] at hE
        refine y_icT (tgt := 75) k49_45 (by decide) c157 ?_
        exact y_weak (ls0 := [some (.ref o0), some (.int x1), some (.int x2), some (.int x3), some (.int x4), some (.int x5), none]) ⟨rfl, rfl, rfl, rfl, rfl, rfl, rfl, trivial⟩ (F49_75 K (f49_15 K n) ih o0 x1 x2 x3 x4 x5 h0 _ _ _ hE)
      · rw [if_neg c157] at hE
        refine y_icF 75 k49_45 (by decide) c157 ?_
        refine y_iload k49_48 rfl ?_
        refine y_iload_n k49_50 rfl ?_
        by_cases c156 : x2 < r147
        · rw [if_pos c156] at hE
          refine y_icT (tgt := 75) k49_51 (by decide) c156 ?_
          exact y_weak (ls0 := [some (.ref o0), some (.int x1), some (.int x2), some (.int x3), some (.int x4), some (.int x5), none]) ⟨rfl, rfl, rfl, rfl, rfl, rfl, rfl, trivial⟩ (F49_75 K (f49_15 K n) ih o0 x1 x2 x3 x4 x5 h0 _ _ _ hE)
        · rw [if_neg c156] at hE
          refine y_icF 75 k49_51 (by decide) c156 ?_
          refine y_iload k49_54 rfl ?_
          refine y_iload k49_56 rfl ?_
          by_cases c155 : r147 < x4
          · rw [if_pos c155] at hE
            refine y_icT (tgt := 75) k49_58 (by decide) c155 ?_
            exact y_weak (ls0 := [some (.ref o0), some (.int x1), some (.int x2), some (.int x3), some (.int x4), some (.int x5), none]) ⟨rfl, rfl, rfl, rfl, rfl, rfl, rfl, trivial⟩ (F49_75 K (f49_15 K n) ih o0 x1 x2 x3 x4 x5 h0 _ _ _ hE)
          · rw [if_neg c155] at hE
            refine y_icF 75 k49_58 (by decide) c155 ?_
            refine y_iload k49_61 rfl ?_
            refine y_istore (ls2 := [some (.ref o0), some (.int x1), some (.int x2), some (.int x3), some (.int r147), some (.int x5), some (.int r147)]) k49_63 rfl (Nat.le_of_ble_eq_true rfl) rfl ?_
            refine y_aload_n k49_65 rfl rfl ?_
            refine y_getR k49_66 fk_3_36 h0.1 rfl ?_
            refine y_iload k49_69 rfl ?_
            obtain ⟨r153, g152, hc154, hE⟩ := zbd_some hE
            refine y_invVi (j := 21) (As := [.int x5]) (rest := []) (N := zm21) (F21 K (o0 + 11) x5 h0.2.2.2.2.2.2.1 _ r153 g152 hc154 (d + 0)) k49_71 lk_3_69 zm21_get na21 rfl (Nat.le_of_ble_eq_true rfl) h0.2.2.2.2.2.2.1.1 (by decide) rfl ?_
            refine y_istore_n (ls2 := [some (.ref o0), some (.int x1), some (.int x2), some (.int r153), some (.int r147), some (.int x5), some (.int r147)]) k49_74 rfl (Nat.le_of_ble_eq_true rfl) rfl ?_
            exact y_weak (ls0 := [some (.ref o0), some (.int x1), some (.int x2), some (.int r153), some (.int r147), some (.int x5), none]) ⟨rfl, rfl, rfl, rfl, rfl, rfl, rfl, trivial⟩ (F49_75 K (f49_15 K n) ih o0 x1 x2 r153 r147 x5 h0 _ _ _ hE)
theorem F49 {L : Nat} {xs : Nat → Int32} (K : Nat) (o0 : Nat) (x1 : Int32) (x2 : Int32) (h0 : zTold o0) (g : zS) (r : Int32) (g' : zS) (hE : f49 K o0 x1 x2 g = some (r, g')) (d : Nat) : zE2 L xs (d + 2) 49 [.ref o0, .int x1, .int x2] g (some (.int r)) g' := by
  refine y_ev (n := 0) (d := d + 1) (ls := [some (.ref o0), some (.int x1), some (.int x2), none, none, none, none]) zm49_get (by decide) (Nat.le_of_ble_eq_true rfl) rfl ?_
  unfold f49 at hE
  refine y_aload_n k49_0 rfl rfl ?_
  refine y_getR k49_1 fk_3_20 h0.1 rfl ?_
  refine y_iload_n k49_4 rfl ?_
  obtain ⟨r160, g159, hc161, hE⟩ := zbd_some hE
  refine y_invVi (j := 21) (As := [.int x1]) (rest := []) (N := zm21) (F21 K (o0 + 1) x1 h0.2.1 _ r160 g159 hc161 (d + 0)) k49_5 lk_3_69 zm21_get na21 rfl (Nat.le_of_ble_eq_true rfl) h0.2.1.1 (by decide) rfl ?_
  refine y_istore_n (ls2 := [some (.ref o0), some (.int x1), some (.int x2), some (.int r160), none, none, none]) k49_8 rfl (Nat.le_of_ble_eq_true rfl) rfl ?_
  refine y_iconst (v := (-1)) k49_9 oi_m1 ?_
  refine y_istore (ls2 := [some (.ref o0), some (.int x1), some (.int x2), some (.int r160), some (.int (-1)), none, none]) k49_10 rfl (Nat.le_of_ble_eq_true rfl) rfl ?_
  refine y_iconst (v := 0) k49_12 oi_0 ?_
  refine y_istore (ls2 := [some (.ref o0), some (.int x1), some (.int x2), some (.int r160), some (.int (-1)), some (.int 0), none]) k49_13 rfl (Nat.le_of_ble_eq_true rfl) rfl ?_
  exact F49_15 K K o0 x1 x2 r160 (-1) 0 h0 _ _ _ hE
-- AdjectiveCoupons$State.timesSaid
def f51 (K : Nat) (o0 : Nat) (x1 : Int32) (x2 : Int32) (g : zS) : Option (Int32 × zS) := zbd (f21 K (o0 + 9) ((x1 * 10) + x2) g) fun r105 g104 => some (r105, g104)
theorem F51 {L : Nat} {xs : Nat → Int32} (K : Nat) (o0 : Nat) (x1 : Int32) (x2 : Int32) (h0 : zState o0) (g : zS) (r : Int32) (g' : zS) (hE : f51 K o0 x1 x2 g = some (r, g')) (d : Nat) : zE2 L xs (d + 2) 51 [.ref o0, .int x1, .int x2] g (some (.int r)) g' := by
  refine y_ev (n := 0) (d := d + 1) (ls := [some (.ref o0), some (.int x1), some (.int x2)]) zm51_get (by decide) (Nat.le_of_ble_eq_true rfl) rfl ?_
  unfold f51 at hE
  refine y_aload_n k51_0 rfl rfl ?_
  refine y_getR k51_1 fk_4_29 h0.1 rfl ?_
  refine y_iload_n k51_4 rfl ?_
  refine y_bipush (v := 10) k51_5 b8_10 ?_
  refine y_imul k51_7 ?_
  refine y_iload_n k51_8 rfl ?_
  refine y_iadd k51_9 ?_
  obtain ⟨r105, g104, hc106, hE⟩ := zbd_some hE
  refine y_invVi (j := 21) (As := [.int ((x1 * 10) + x2)]) (rest := []) (N := zm21) (F21 K (o0 + 9) ((x1 * 10) + x2) h0.2.2.2.2.2.1 _ r105 g104 hc106 (d + 0)) k51_10 lk_4_62 zm21_get na21 rfl (Nat.le_of_ble_eq_true rfl) h0.2.2.2.2.2.1.1 (by decide) rfl ?_
  obtain ⟨rfl, rfl⟩ := zpr hE
  exact y_iret k51_13 rfl
-- AdjectiveCoupons.isPerson
def f53 (K : Nat) (x1 : Int32) (g : zS) : Option (Int32 × zS) := zbd (f12 K x1 0 ((g 4 1) - 1) g) fun r105 g104 => if r105 = 0 ∨ r105 = 1 then some (r105, g104) else none
theorem F53 {L : Nat} {xs : Nat → Int32} (K : Nat) (x1 : Int32) (g : zS) (r : Int32) (g' : zS) (hE : f53 K x1 g = some (r, g')) (d : Nat) : zE2 L xs (d + 2) 53 [.ref 0, .int x1] g (some (.int r)) g' := by
  refine y_ev (n := 0) (d := d + 1) (ls := [some (.ref 0), some (.int x1)]) zm53_get (by decide) (Nat.le_of_ble_eq_true rfl) rfl ?_
  unfold f53 at hE
  refine y_iload_n k53_0 rfl ?_
  refine y_iconst (v := 0) k53_1 oi_0 ?_
  refine y_aload_n k53_2 rfl rfl ?_
  refine y_getR k53_3 fk_0_19 sh0 rfl ?_
  refine y_getI k53_6 fk_0_88 sh4 rfl ?_
  refine y_iconst (v := 1) k53_9 oi_1 ?_
  refine y_isub k53_10 ?_
  obtain ⟨r105, g104, hc106, hE⟩ := zbd_some hE
  refine y_invSi (j := 12) (As := [.int x1, .int 0, .int ((g 4 1) - 1)]) (rest := []) (N := zm12) (F12 K x1 0 ((g 4 1) - 1) _ r105 g104 hc106 (d + 0)) k53_11 lk_0_68 zm12_get na12 rfl (Nat.le_of_ble_eq_true rfl) ?_
  obtain ⟨hc, hE⟩ := zif_some hE
  obtain ⟨rfl, rfl⟩ := zpr hE
  exact y_zret k53_14 rfl hc
-- AdjectiveCoupons$Told.kindOfOne
def f54 (K : Nat) (o0 : Nat) (x1 : Int32) (g : zS) : Option (Int32 × zS) := zbd (f21 K (o0 + 5) x1 g) fun r105 g104 => some (r105, g104)
theorem F54 {L : Nat} {xs : Nat → Int32} (K : Nat) (o0 : Nat) (x1 : Int32) (h0 : zTold o0) (g : zS) (r : Int32) (g' : zS) (hE : f54 K o0 x1 g = some (r, g')) (d : Nat) : zE2 L xs (d + 2) 54 [.ref o0, .int x1] g (some (.int r)) g' := by
  refine y_ev (n := 0) (d := d + 1) (ls := [some (.ref o0), some (.int x1)]) zm54_get (by decide) (Nat.le_of_ble_eq_true rfl) rfl ?_
  unfold f54 at hE
  refine y_aload_n k54_0 rfl rfl ?_
  refine y_getR k54_1 fk_3_27 h0.1 rfl ?_
  refine y_iload_n k54_4 rfl ?_
  obtain ⟨r105, g104, hc106, hE⟩ := zbd_some hE
  refine y_invVi (j := 21) (As := [.int x1]) (rest := []) (N := zm21) (F21 K (o0 + 5) x1 h0.2.2.2.1 _ r105 g104 hc106 (d + 0)) k54_5 lk_3_69 zm21_get na21 rfl (Nat.le_of_ble_eq_true rfl) h0.2.2.2.1.1 (by decide) rfl ?_
  obtain ⟨rfl, rfl⟩ := zpr hE
  exact y_iret k54_8 rfl
-- AdjectiveCoupons$Line.wordAt
def f62 (K : Nat) (o0 : Nat) (x1 : Int32) (g : zS) : Option (Int32 × zS) := if x1 < 0 then some ((-1), g) else if (g o0 1) ≤ x1 then some ((-1), g) else (zbd (f21 K (o0 + 1) x1 g) fun r107 g106 => some (r107, g106))
theorem F62 {L : Nat} {xs : Nat → Int32} (K : Nat) (o0 : Nat) (x1 : Int32) (h0 : zLine o0) (g : zS) (r : Int32) (g' : zS) (hE : f62 K o0 x1 g = some (r, g')) (d : Nat) : zE2 L xs (d + 2) 62 [.ref o0, .int x1] g (some (.int r)) g' := by
  refine y_ev (n := 0) (d := d + 1) (ls := [some (.ref o0), some (.int x1)]) zm62_get (by decide) (Nat.le_of_ble_eq_true rfl) rfl ?_
  unfold f62 at hE
  refine y_iload_n k62_0 rfl ?_
  by_cases c110 : x1 < 0
  · rw [if_pos c110] at hE
    refine y_ifT (tgt := 23) k62_1 (by decide) c110 ?_
    refine y_iconst (v := (-1)) k62_23 oi_m1 ?_
    obtain ⟨rfl, rfl⟩ := zpr hE
    exact y_iret k62_24 rfl
  · rw [if_neg c110] at hE
    refine y_ifF 23 k62_1 (by decide) c110 ?_
    refine y_iload_n k62_4 rfl ?_
    refine y_aload_n k62_5 rfl rfl ?_
    refine y_getI k62_6 fk_6_20 h0.1 rfl ?_
    by_cases c109 : (g o0 1) ≤ x1
    · rw [if_pos c109] at hE
      refine y_icT (tgt := 23) k62_9 (by decide) c109 ?_
      refine y_iconst (v := (-1)) k62_23 oi_m1 ?_
      obtain ⟨rfl, rfl⟩ := zpr hE
      exact y_iret k62_24 rfl
    · rw [if_neg c109] at hE
      refine y_icF 23 k62_9 (by decide) c109 ?_
      refine y_aload_n k62_12 rfl rfl ?_
      refine y_getR k62_13 fk_6_14 h0.1 rfl ?_
      refine y_iload_n k62_16 rfl ?_
      obtain ⟨r107, g106, hc108, hE⟩ := zbd_some hE
      refine y_invVi (j := 21) (As := [.int x1]) (rest := []) (N := zm21) (F21 K (o0 + 1) x1 h0.2 _ r107 g106 hc108 (d + 0)) k62_17 lk_6_32 zm21_get na21 rfl (Nat.le_of_ble_eq_true rfl) h0.2.1 (by decide) rfl ?_
      refine y_goto (tgt := 24) k62_20 (by decide) ?_
      obtain ⟨rfl, rfl⟩ := zpr hE
      exact y_iret k62_24 rfl
-- AdjectiveCoupons$Line.append
def f69 (K : Nat) (o0 : Nat) (x1 : Int32) (g : zS) : Option (Int32 × zS) := if (g o0 1) < 8 then zbd (f14 K (o0 + 1) (g o0 1) x1 g) fun _ g105 => some (1, (zup g105 o0 1 ((g105 o0 1) + 1))) else (some (0, g))
theorem F69 {L : Nat} {xs : Nat → Int32} (K : Nat) (o0 : Nat) (x1 : Int32) (h0 : zLine o0) (g : zS) (r : Int32) (g' : zS) (hE : f69 K o0 x1 g = some (r, g')) (d : Nat) : zE2 L xs (d + 2) 69 [.ref o0, .int x1] g (some (.int r)) g' := by
  refine y_ev (n := 0) (d := d + 1) (ls := [some (.ref o0), some (.int x1)]) zm69_get (by decide) (Nat.le_of_ble_eq_true rfl) rfl ?_
  unfold f69 at hE
  refine y_aload_n k69_0 rfl rfl ?_
  refine y_getI k69_1 fk_6_20 h0.1 rfl ?_
  refine y_bipush (v := 8) k69_4 b8_8 ?_
  by_cases c108 : (g o0 1) < 8
  · rw [if_pos c108] at hE
    refine y_icT (tgt := 11) k69_6 (by decide) c108 ?_
    refine y_aload_n k69_11 rfl rfl ?_
    refine y_getR k69_12 fk_6_14 h0.1 rfl ?_
    refine y_aload_n k69_15 rfl rfl ?_
    refine y_getI k69_16 fk_6_20 h0.1 rfl ?_
    refine y_iload_n k69_19 rfl ?_
    obtain ⟨u106, g105, hc107, hE⟩ := zbd_some hE
    refine y_invVv (j := 14) (As := [.int (g o0 1), .int x1]) (rest := []) (N := zm14) (F14 K (o0 + 1) (g o0 1) x1 h0.2 _ u106 g105 hc107 (d + 0)) k69_20 lk_6_24 zm14_get na14 rfl (Nat.le_of_ble_eq_true rfl) h0.2.1 (by decide) rfl ?_
    refine y_aload_n k69_23 rfl rfl ?_
    refine y_dup k69_24 rfl ?_
    refine y_getI k69_25 fk_6_20 h0.1 rfl ?_
    refine y_iconst (v := 1) k69_28 oi_1 ?_
    refine y_iadd k69_29 ?_
    refine y_putI k69_30 fk_6_20 h0.1 rfl pi_6_1.1 pi_6_1.2 ?_
    refine y_iconst (v := 1) k69_33 oi_1 ?_
    obtain ⟨rfl, rfl⟩ := zpr hE
    exact y_zret k69_34 rfl (by decide)
  · rw [if_neg c108] at hE
    refine y_icF 11 k69_6 (by decide) c108 ?_
    refine y_iconst (v := 0) k69_9 oi_0 ?_
    obtain ⟨rfl, rfl⟩ := zpr hE
    exact y_zret k69_10 rfl (by decide)
-- AdjectiveCoupons$Line.holeCount
def f77_30 (K : Nat) (k4 : Nat → Int32 → Int32 → zS → Option (Int32 × zS)) (o0 : Nat) (x2 : Int32) (xs0 : Int32) (xs1 : Int32) (g : zS) : Option (Int32 × zS) := k4 o0 (xs0 + xs1) (x2 + 1) g
def f77_4 (K : Nat) : Nat → Nat → Int32 → Int32 → zS → Option (Int32 × zS)
  | 0, _, _, _, _ => none
  | n + 1, o0, x1, x2, g => if (g o0 1) ≤ x2 then some (x1, g) else (zbd (f21 K (o0 + 1) x2 g) fun r117 g116 => if ¬ r117 = (-1) then f77_30 K (f77_4 K n) o0 x2 x1 0 g116 else (f77_30 K (f77_4 K n) o0 x2 x1 1 g116))
def f77 (K : Nat) (o0 : Nat) (g : zS) : Option (Int32 × zS) := f77_4 K K o0 0 0 g
theorem F77_30 {L : Nat} {xs : Nat → Int32} {d : Nat} (K : Nat) (k4 : Nat → Int32 → Int32 → zS → Option (Int32 × zS)) (hk4 : ∀ (o0 : Nat) (x1 : Int32) (x2 : Int32) (h0 : zLine o0) (g : zS) (r : Int32) (g' : zS), k4 o0 x1 x2 g = some (r, g') → zG2 L xs (d + 1) zm77 4 [some (.ref o0), some (.int x1), some (.int x2)] [] g (some (.int r)) g') (o0 : Nat) (x2 : Int32) (xs0 : Int32) (xs1 : Int32) (h0 : zLine o0) (g : zS) (r : Int32) (g' : zS) (hE : f77_30 K k4 o0 x2 xs0 xs1 g = some (r, g')) : zG2 L xs (d + 1) zm77 30 [some (.ref o0), none, some (.int x2)] [.int xs1, .int xs0] g (some (.int r)) g' := by
  unfold f77_30 at hE
  refine y_iadd k77_30 ?_
  refine y_istore_n (ls2 := [some (.ref o0), some (.int (xs0 + xs1)), some (.int x2)]) k77_31 rfl (Nat.le_of_ble_eq_true rfl) rfl ?_
  refine y_iinc (v := (x2 + 1)) (ls2 := [some (.ref o0), some (.int (xs0 + xs1)), some (.int (x2 + 1))]) k77_32 rfl rfl (by rw [oi_1]) rfl ?_
  refine y_goto (tgt := 4) k77_35 (by decide) ?_
  exact hk4 o0 (xs0 + xs1) (x2 + 1) h0 _ _ _ hE
theorem F77_4 {L : Nat} {xs : Nat → Int32} {d : Nat} (K : Nat) : ∀ (n : Nat) (o0 : Nat) (x1 : Int32) (x2 : Int32) (h0 : zLine o0) (g : zS) (r : Int32) (g' : zS) (hE : f77_4 K n o0 x1 x2 g = some (r, g')), zG2 L xs (d + 1) zm77 4 [some (.ref o0), some (.int x1), some (.int x2)] [] g (some (.int r)) g' := by
  intro n
  induction n with
  | zero => intro o0 x1 x2 h0 g r g' hE; cases hE
  | succ n ih =>
    intro o0 x1 x2 h0 g r g' hE
    rw [f77_4] at hE
    refine y_iload_n k77_4 rfl ?_
    refine y_aload_n k77_5 rfl rfl ?_
    refine y_getI k77_6 fk_6_20 h0.1 rfl ?_
    by_cases c120 : (g o0 1) ≤ x2
    · rw [if_pos c120] at hE
      refine y_icT (tgt := 38) k77_9 (by decide) c120 ?_
      refine y_iload_n k77_38 rfl ?_
      obtain ⟨rfl, rfl⟩ := zpr hE
      exact y_iret k77_39 rfl
    · rw [if_neg c120] at hE
      refine y_icF 38 k77_9 (by decide) c120 ?_
      refine y_iload_n k77_12 rfl ?_
      refine y_aload_n k77_13 rfl rfl ?_
      refine y_getR k77_14 fk_6_14 h0.1 rfl ?_
      refine y_iload_n k77_17 rfl ?_
      obtain ⟨r117, g116, hc118, hE⟩ := zbd_some hE
      refine y_invVi (j := 21) (As := [.int x2]) (rest := [.int x1]) (N := zm21) (F21 K (o0 + 1) x2 h0.2 _ r117 g116 hc118 (d + 0)) k77_18 lk_6_32 zm21_get na21 rfl (Nat.le_of_ble_eq_true rfl) h0.2.1 (by decide) rfl ?_
      refine y_iconst (v := (-1)) k77_21 oi_m1 ?_
      by_cases c119 : ¬ r117 = (-1)
      · rw [if_pos c119] at hE
        refine y_icT (tgt := 29) k77_22 (by decide) c119 ?_
        refine y_iconst (v := 0) k77_29 oi_0 ?_
        exact y_weak (ls0 := [some (.ref o0), none, some (.int x2)]) ⟨rfl, rfl, rfl, trivial⟩ (F77_30 K (f77_4 K n) ih o0 x2 x1 0 h0 _ _ _ hE)
      · rw [if_neg c119] at hE
        refine y_icF 29 k77_22 (by decide) c119 ?_
        refine y_iconst (v := 1) k77_25 oi_1 ?_
        refine y_goto (tgt := 30) k77_26 (by decide) ?_
        exact y_weak (ls0 := [some (.ref o0), none, some (.int x2)]) ⟨rfl, rfl, rfl, trivial⟩ (F77_30 K (f77_4 K n) ih o0 x2 x1 1 h0 _ _ _ hE)
theorem F77 {L : Nat} {xs : Nat → Int32} (K : Nat) (o0 : Nat) (h0 : zLine o0) (g : zS) (r : Int32) (g' : zS) (hE : f77 K o0 g = some (r, g')) (d : Nat) : zE2 L xs (d + 2) 77 [.ref o0] g (some (.int r)) g' := by
  refine y_ev (n := 0) (d := d + 1) (ls := [some (.ref o0), none, none]) zm77_get (by decide) (Nat.le_of_ble_eq_true rfl) rfl ?_
  unfold f77 at hE
  refine y_iconst (v := 0) k77_0 oi_0 ?_
  refine y_istore_n (ls2 := [some (.ref o0), some (.int 0), none]) k77_1 rfl (Nat.le_of_ble_eq_true rfl) rfl ?_
  refine y_iconst (v := 0) k77_2 oi_0 ?_
  refine y_istore_n (ls2 := [some (.ref o0), some (.int 0), some (.int 0)]) k77_3 rfl (Nat.le_of_ble_eq_true rfl) rfl ?_
  exact F77_4 K K o0 0 0 h0 _ _ _ hE
-- AdjectiveCoupons$State.become
def f80 (K : Nat) (o0 : Nat) (o1 : Nat) (g : zS) : Option (Unit × zS) := zbd (f18 K (o0 + 1) (o1 + 1) (zup g o0 0 (g o1 0))) fun _ g119 => zbd (f18 K (o0 + 3) (o1 + 3) g119) fun _ g122 => zbd (f18 K (o0 + 5) (o1 + 5) g122) fun _ g125 => zbd (f18 K (o0 + 7) (o1 + 7) g125) fun _ g128 => zbd (f18 K (o0 + 9) (o1 + 9) g128) fun _ g131 => zbd (f18 K (o0 + 11) (o1 + 11) g131) fun _ g134 => some ((), g134)
theorem F80 {L : Nat} {xs : Nat → Int32} (K : Nat) (o0 : Nat) (o1 : Nat) (h0 : zState o0) (h1 : zState o1) (g : zS) (r : Unit) (g' : zS) (hE : f80 K o0 o1 g = some (r, g')) (d : Nat) : zE2 L xs (d + 2) 80 [.ref o0, .ref o1] g none g' := by
  refine y_ev (n := 0) (d := d + 1) (ls := [some (.ref o0), some (.ref o1)]) zm80_get (by decide) (Nat.le_of_ble_eq_true rfl) rfl ?_
  unfold f80 at hE
  refine y_aload_n k80_0 rfl rfl ?_
  refine y_aload_n k80_1 rfl rfl ?_
  refine y_getI k80_2 fk_4_35 h1.1 rfl ?_
  refine y_putI k80_5 fk_4_35 h0.1 rfl pi_4_0.1 pi_4_0.2 ?_
  refine y_aload_n k80_8 rfl rfl ?_
  refine y_getR k80_9 fk_4_14 h0.1 rfl ?_
  refine y_aload_n k80_12 rfl rfl ?_
  refine y_getR k80_13 fk_4_14 h1.1 rfl ?_
  obtain ⟨u120, g119, hc121, hE⟩ := zbd_some hE
  refine y_invVv (j := 18) (As := [.ref (o1 + 1)]) (rest := []) (N := zm18) (F18 K (o0 + 1) (o1 + 1) h0.2.1 h1.2.1 _ u120 g119 hc121 (d + 0)) k80_16 lk_4_46 zm18_get na18 rfl (Nat.le_of_ble_eq_true rfl) h0.2.1.1 (by decide) rfl ?_
  refine y_aload_n k80_19 rfl rfl ?_
  refine y_getR k80_20 fk_4_20 h0.1 rfl ?_
  refine y_aload_n k80_23 rfl rfl ?_
  refine y_getR k80_24 fk_4_20 h1.1 rfl ?_
  obtain ⟨u123, g122, hc124, hE⟩ := zbd_some hE
  refine y_invVv (j := 18) (As := [.ref (o1 + 3)]) (rest := []) (N := zm18) (F18 K (o0 + 3) (o1 + 3) h0.2.2.1 h1.2.2.1 _ u123 g122 hc124 (d + 0)) k80_27 lk_4_46 zm18_get na18 rfl (Nat.le_of_ble_eq_true rfl) h0.2.2.1.1 (by decide) rfl ?_
  refine y_aload_n k80_30 rfl rfl ?_
  refine y_getR k80_31 fk_4_23 h0.1 rfl ?_
  refine y_aload_n k80_34 rfl rfl ?_
  refine y_getR k80_35 fk_4_23 h1.1 rfl ?_
  obtain ⟨u126, g125, hc127, hE⟩ := zbd_some hE
  refine y_invVv (j := 18) (As := [.ref (o1 + 5)]) (rest := []) (N := zm18) (F18 K (o0 + 5) (o1 + 5) h0.2.2.2.1 h1.2.2.2.1 _ u126 g125 hc127 (d + 0)) k80_38 lk_4_46 zm18_get na18 rfl (Nat.le_of_ble_eq_true rfl) h0.2.2.2.1.1 (by decide) rfl ?_
  refine y_aload_n k80_41 rfl rfl ?_
  refine y_getR k80_42 fk_4_26 h0.1 rfl ?_
  refine y_aload_n k80_45 rfl rfl ?_
  refine y_getR k80_46 fk_4_26 h1.1 rfl ?_
  obtain ⟨u129, g128, hc130, hE⟩ := zbd_some hE
  refine y_invVv (j := 18) (As := [.ref (o1 + 7)]) (rest := []) (N := zm18) (F18 K (o0 + 7) (o1 + 7) h0.2.2.2.2.1 h1.2.2.2.2.1 _ u129 g128 hc130 (d + 0)) k80_49 lk_4_46 zm18_get na18 rfl (Nat.le_of_ble_eq_true rfl) h0.2.2.2.2.1.1 (by decide) rfl ?_
  refine y_aload_n k80_52 rfl rfl ?_
  refine y_getR k80_53 fk_4_29 h0.1 rfl ?_
  refine y_aload_n k80_56 rfl rfl ?_
  refine y_getR k80_57 fk_4_29 h1.1 rfl ?_
  obtain ⟨u132, g131, hc133, hE⟩ := zbd_some hE
  refine y_invVv (j := 18) (As := [.ref (o1 + 9)]) (rest := []) (N := zm18) (F18 K (o0 + 9) (o1 + 9) h0.2.2.2.2.2.1 h1.2.2.2.2.2.1 _ u132 g131 hc133 (d + 0)) k80_60 lk_4_46 zm18_get na18 rfl (Nat.le_of_ble_eq_true rfl) h0.2.2.2.2.2.1.1 (by decide) rfl ?_
  refine y_aload_n k80_63 rfl rfl ?_
  refine y_getR k80_64 fk_4_32 h0.1 rfl ?_
  refine y_aload_n k80_67 rfl rfl ?_
  refine y_getR k80_68 fk_4_32 h1.1 rfl ?_
  obtain ⟨u135, g134, hc136, hE⟩ := zbd_some hE
  refine y_invVv (j := 18) (As := [.ref (o1 + 11)]) (rest := []) (N := zm18) (F18 K (o0 + 11) (o1 + 11) h0.2.2.2.2.2.2 h1.2.2.2.2.2.2 _ u135 g134 hc136 (d + 0)) k80_71 lk_4_46 zm18_get na18 rfl (Nat.le_of_ble_eq_true rfl) h0.2.2.2.2.2.2.1 (by decide) rfl ?_
  obtain ⟨rfl, rfl⟩ := zpr hE
  exact y_vret k80_74 rfl
-- AdjectiveCoupons$Row.add
def f82 (K : Nat) (o0 : Nat) (x1 : Int32) (x2 : Int32) (g : zS) : Option (Unit × zS) := zbd (f21 K o0 x1 g) fun r108 g107 => zbd (f14 K o0 x1 (r108 + x2) g107) fun _ g110 => some ((), g110)
theorem F82 {L : Nat} {xs : Nat → Int32} (K : Nat) (o0 : Nat) (x1 : Int32) (x2 : Int32) (h0 : zRow o0) (g : zS) (r : Unit) (g' : zS) (hE : f82 K o0 x1 x2 g = some (r, g')) (d : Nat) : zE2 L xs (d + 2) 82 [.ref o0, .int x1, .int x2] g none g' := by
  refine y_ev (n := 0) (d := d + 1) (ls := [some (.ref o0), some (.int x1), some (.int x2)]) zm82_get (by decide) (Nat.le_of_ble_eq_true rfl) rfl ?_
  unfold f82 at hE
  refine y_aload_n k82_0 rfl rfl ?_
  refine y_iload_n k82_1 rfl ?_
  refine y_aload_n k82_2 rfl rfl ?_
  refine y_iload_n k82_3 rfl ?_
  obtain ⟨r108, g107, hc109, hE⟩ := zbd_some hE
  refine y_invVi (j := 21) (As := [.int x1]) (rest := [.int x1, .ref o0]) (N := zm21) (F21 K o0 x1 h0 _ r108 g107 hc109 (d + 0)) k82_4 lk_2_13 zm21_get na21 rfl (Nat.le_of_ble_eq_true rfl) h0.1 (by decide) rfl ?_
  refine y_iload_n k82_7 rfl ?_
  refine y_iadd k82_8 ?_
  obtain ⟨u111, g110, hc112, hE⟩ := zbd_some hE
  refine y_invVv (j := 14) (As := [.int x1, .int (r108 + x2)]) (rest := []) (N := zm14) (F14 K o0 x1 (r108 + x2) h0 _ u111 g110 hc112 (d + 0)) k82_9 lk_2_17 zm14_get na14 rfl (Nat.le_of_ble_eq_true rfl) h0.1 (by decide) rfl ?_
  obtain ⟨rfl, rfl⟩ := zpr hE
  exact y_vret k82_12 rfl
-- AdjectiveCoupons$State.debt
def f90 (K : Nat) (o0 : Nat) (x1 : Int32) (x2 : Int32) (g : zS) : Option (Int32 × zS) := zbd (f21 K (o0 + 11) ((x1 * 4) + x2) g) fun r105 g104 => some (r105, g104)
theorem F90 {L : Nat} {xs : Nat → Int32} (K : Nat) (o0 : Nat) (x1 : Int32) (x2 : Int32) (h0 : zState o0) (g : zS) (r : Int32) (g' : zS) (hE : f90 K o0 x1 x2 g = some (r, g')) (d : Nat) : zE2 L xs (d + 2) 90 [.ref o0, .int x1, .int x2] g (some (.int r)) g' := by
  refine y_ev (n := 0) (d := d + 1) (ls := [some (.ref o0), some (.int x1), some (.int x2)]) zm90_get (by decide) (Nat.le_of_ble_eq_true rfl) rfl ?_
  unfold f90 at hE
  refine y_aload_n k90_0 rfl rfl ?_
  refine y_getR k90_1 fk_4_32 h0.1 rfl ?_
  refine y_iload_n k90_4 rfl ?_
  refine y_iconst (v := 4) k90_5 oi_4 ?_
  refine y_imul k90_6 ?_
  refine y_iload_n k90_7 rfl ?_
  refine y_iadd k90_8 ?_
  obtain ⟨r105, g104, hc106, hE⟩ := zbd_some hE
  refine y_invVi (j := 21) (As := [.int ((x1 * 4) + x2)]) (rest := []) (N := zm21) (F21 K (o0 + 11) ((x1 * 4) + x2) h0.2.2.2.2.2.2 _ r105 g104 hc106 (d + 0)) k90_9 lk_4_62 zm21_get na21 rfl (Nat.le_of_ble_eq_true rfl) h0.2.2.2.2.2.2.1 (by decide) rfl ?_
  obtain ⟨rfl, rfl⟩ := zpr hE
  exact y_iret k90_12 rfl
-- AdjectiveCoupons$State.setDebt
def f91 (K : Nat) (o0 : Nat) (x1 : Int32) (x2 : Int32) (x3 : Int32) (g : zS) : Option (Unit × zS) := zbd (f14 K (o0 + 11) ((x1 * 4) + x2) x3 g) fun _ g104 => some ((), g104)
theorem F91 {L : Nat} {xs : Nat → Int32} (K : Nat) (o0 : Nat) (x1 : Int32) (x2 : Int32) (x3 : Int32) (h0 : zState o0) (g : zS) (r : Unit) (g' : zS) (hE : f91 K o0 x1 x2 x3 g = some (r, g')) (d : Nat) : zE2 L xs (d + 2) 91 [.ref o0, .int x1, .int x2, .int x3] g none g' := by
  refine y_ev (n := 0) (d := d + 1) (ls := [some (.ref o0), some (.int x1), some (.int x2), some (.int x3)]) zm91_get (by decide) (Nat.le_of_ble_eq_true rfl) rfl ?_
  unfold f91 at hE
  refine y_aload_n k91_0 rfl rfl ?_
  refine y_getR k91_1 fk_4_32 h0.1 rfl ?_
  refine y_iload_n k91_4 rfl ?_
  refine y_iconst (v := 4) k91_5 oi_4 ?_
  refine y_imul k91_6 ?_
  refine y_iload_n k91_7 rfl ?_
  refine y_iadd k91_8 ?_
  refine y_iload_n k91_9 rfl ?_
  obtain ⟨u105, g104, hc106, hE⟩ := zbd_some hE
  refine y_invVv (j := 14) (As := [.int ((x1 * 4) + x2), .int x3]) (rest := []) (N := zm14) (F14 K (o0 + 11) ((x1 * 4) + x2) x3 h0.2.2.2.2.2.2 _ u105 g104 hc106 (d + 0)) k91_10 lk_4_42 zm14_get na14 rfl (Nat.le_of_ble_eq_true rfl) h0.2.2.2.2.2.2.1 (by decide) rfl ?_
  obtain ⟨rfl, rfl⟩ := zpr hE
  exact y_vret k91_13 rfl
-- AdjectiveCoupons$Line.become
def f102 (K : Nat) (o0 : Nat) (o1 : Nat) (g : zS) : Option (Unit × zS) := zbd (f18 K (o0 + 1) (o1 + 1) g) fun _ g104 => some ((), (zup g104 o0 1 (g104 o1 1)))
theorem F102 {L : Nat} {xs : Nat → Int32} (K : Nat) (o0 : Nat) (o1 : Nat) (h0 : zLine o0) (h1 : zLine o1) (g : zS) (r : Unit) (g' : zS) (hE : f102 K o0 o1 g = some (r, g')) (d : Nat) : zE2 L xs (d + 2) 102 [.ref o0, .ref o1] g none g' := by
  refine y_ev (n := 0) (d := d + 1) (ls := [some (.ref o0), some (.ref o1)]) zm102_get (by decide) (Nat.le_of_ble_eq_true rfl) rfl ?_
  unfold f102 at hE
  refine y_aload_n k102_0 rfl rfl ?_
  refine y_getR k102_1 fk_6_14 h0.1 rfl ?_
  refine y_aload_n k102_4 rfl rfl ?_
  refine y_getR k102_5 fk_6_14 h1.1 rfl ?_
  obtain ⟨u105, g104, hc106, hE⟩ := zbd_some hE
  refine y_invVv (j := 18) (As := [.ref (o1 + 1)]) (rest := []) (N := zm18) (F18 K (o0 + 1) (o1 + 1) h0.2 h1.2 _ u105 g104 hc106 (d + 0)) k102_8 lk_6_28 zm18_get na18 rfl (Nat.le_of_ble_eq_true rfl) h0.2.1 (by decide) rfl ?_
  refine y_aload_n k102_11 rfl rfl ?_
  refine y_aload_n k102_12 rfl rfl ?_
  refine y_getI k102_13 fk_6_20 h1.1 rfl ?_
  refine y_putI k102_16 fk_6_20 h0.1 rfl pi_6_1.1 pi_6_1.2 ?_
  obtain ⟨rfl, rfl⟩ := zpr hE
  exact y_vret k102_19 rfl
-- AdjectiveCoupons$Line.swap
def f104 (K : Nat) (o0 : Nat) (x1 : Int32) (x2 : Int32) (g : zS) : Option (Unit × zS) := zbd (f21 K (o0 + 1) x1 g) fun r114 g113 => zbd (f21 K (o0 + 1) x2 g113) fun r117 g116 => zbd (f14 K (o0 + 1) x1 r117 g116) fun _ g119 => zbd (f14 K (o0 + 1) x2 r114 g119) fun _ g122 => some ((), g122)
theorem F104 {L : Nat} {xs : Nat → Int32} (K : Nat) (o0 : Nat) (x1 : Int32) (x2 : Int32) (h0 : zLine o0) (g : zS) (r : Unit) (g' : zS) (hE : f104 K o0 x1 x2 g = some (r, g')) (d : Nat) : zE2 L xs (d + 2) 104 [.ref o0, .int x1, .int x2] g none g' := by
  refine y_ev (n := 0) (d := d + 1) (ls := [some (.ref o0), some (.int x1), some (.int x2), none]) zm104_get (by decide) (Nat.le_of_ble_eq_true rfl) rfl ?_
  unfold f104 at hE
  refine y_aload_n k104_0 rfl rfl ?_
  refine y_getR k104_1 fk_6_14 h0.1 rfl ?_
  refine y_iload_n k104_4 rfl ?_
  obtain ⟨r114, g113, hc115, hE⟩ := zbd_some hE
  refine y_invVi (j := 21) (As := [.int x1]) (rest := []) (N := zm21) (F21 K (o0 + 1) x1 h0.2 _ r114 g113 hc115 (d + 0)) k104_5 lk_6_32 zm21_get na21 rfl (Nat.le_of_ble_eq_true rfl) h0.2.1 (by decide) rfl ?_
  refine y_istore_n (ls2 := [some (.ref o0), some (.int x1), some (.int x2), some (.int r114)]) k104_8 rfl (Nat.le_of_ble_eq_true rfl) rfl ?_
  refine y_aload_n k104_9 rfl rfl ?_
  refine y_getR k104_10 fk_6_14 h0.1 rfl ?_
  refine y_iload_n k104_13 rfl ?_
  refine y_aload_n k104_14 rfl rfl ?_
  refine y_getR k104_15 fk_6_14 h0.1 rfl ?_
  refine y_iload_n k104_18 rfl ?_
  obtain ⟨r117, g116, hc118, hE⟩ := zbd_some hE
  refine y_invVi (j := 21) (As := [.int x2]) (rest := [.int x1, .ref (o0 + 1)]) (N := zm21) (F21 K (o0 + 1) x2 h0.2 _ r117 g116 hc118 (d + 0)) k104_19 lk_6_32 zm21_get na21 rfl (Nat.le_of_ble_eq_true rfl) h0.2.1 (by decide) rfl ?_
  obtain ⟨u120, g119, hc121, hE⟩ := zbd_some hE
  refine y_invVv (j := 14) (As := [.int x1, .int r117]) (rest := []) (N := zm14) (F14 K (o0 + 1) x1 r117 h0.2 _ u120 g119 hc121 (d + 0)) k104_22 lk_6_24 zm14_get na14 rfl (Nat.le_of_ble_eq_true rfl) h0.2.1 (by decide) rfl ?_
  refine y_aload_n k104_25 rfl rfl ?_
  refine y_getR k104_26 fk_6_14 h0.1 rfl ?_
  refine y_iload_n k104_29 rfl ?_
  refine y_iload_n k104_30 rfl ?_
  obtain ⟨u123, g122, hc124, hE⟩ := zbd_some hE
  refine y_invVv (j := 14) (As := [.int x2, .int r114]) (rest := []) (N := zm14) (F14 K (o0 + 1) x2 r114 h0.2 _ u123 g122 hc124 (d + 0)) k104_31 lk_6_24 zm14_get na14 rfl (Nat.le_of_ble_eq_true rfl) h0.2.1 (by decide) rfl ?_
  obtain ⟨rfl, rfl⟩ := zpr hE
  exact y_vret k104_34 rfl
-- AdjectiveCoupons$Line.placeOfHole
def f115_34 (K : Nat) (k4 : Nat → Int32 → Int32 → Int32 → zS → Option (Int32 × zS)) (o0 : Nat) (x1 : Int32) (x2 : Int32) (x3 : Int32) (g : zS) : Option (Int32 × zS) := k4 o0 x1 x2 (x3 + 1) g
def f115_4 (K : Nat) : Nat → Nat → Int32 → Int32 → Int32 → zS → Option (Int32 × zS)
  | 0, _, _, _, _, _ => none
  | n + 1, o0, x1, x2, x3, g => if (g o0 1) ≤ x3 then some ((-1), g) else (zbd (f21 K (o0 + 1) x3 g) fun r120 g119 => if ¬ r120 = (-1) then f115_34 K (f115_4 K n) o0 x1 x2 x3 g119 else if ¬ x2 = x1 then f115_34 K (f115_4 K n) o0 x1 (x2 + 1) x3 g119 else (some (x3, g119)))
def f115 (K : Nat) (o0 : Nat) (x1 : Int32) (g : zS) : Option (Int32 × zS) := f115_4 K K o0 x1 0 0 g
theorem F115_34 {L : Nat} {xs : Nat → Int32} {d : Nat} (K : Nat) (k4 : Nat → Int32 → Int32 → Int32 → zS → Option (Int32 × zS)) (hk4 : ∀ (o0 : Nat) (x1 : Int32) (x2 : Int32) (x3 : Int32) (h0 : zLine o0) (g : zS) (r : Int32) (g' : zS), k4 o0 x1 x2 x3 g = some (r, g') → zG2 L xs (d + 1) zm115 4 [some (.ref o0), some (.int x1), some (.int x2), some (.int x3)] [] g (some (.int r)) g') (o0 : Nat) (x1 : Int32) (x2 : Int32) (x3 : Int32) (h0 : zLine o0) (g : zS) (r : Int32) (g' : zS) (hE : f115_34 K k4 o0 x1 x2 x3 g = some (r, g')) : zG2 L xs (d + 1) zm115 34 [some (.ref o0), some (.int x1), some (.int x2), some (.int x3)] [] g (some (.int r)) g' := by
  unfold f115_34 at hE
  refine y_iinc (v := (x3 + 1)) (ls2 := [some (.ref o0), some (.int x1), some (.int x2), some (.int (x3 + 1))]) k115_34 rfl rfl (by rw [oi_1]) rfl ?_
  refine y_goto (tgt := 4) k115_37 (by decide) ?_
  exact hk4 o0 x1 x2 (x3 + 1) h0 _ _ _ hE
theorem F115_4 {L : Nat} {xs : Nat → Int32} {d : Nat} (K : Nat) : ∀ (n : Nat) (o0 : Nat) (x1 : Int32) (x2 : Int32) (x3 : Int32) (h0 : zLine o0) (g : zS) (r : Int32) (g' : zS) (hE : f115_4 K n o0 x1 x2 x3 g = some (r, g')), zG2 L xs (d + 1) zm115 4 [some (.ref o0), some (.int x1), some (.int x2), some (.int x3)] [] g (some (.int r)) g' := by
  intro n
  induction n with
  | zero => intro o0 x1 x2 x3 h0 g r g' hE; cases hE
  | succ n ih =>
    intro o0 x1 x2 x3 h0 g r g' hE
    rw [f115_4] at hE
    refine y_iload_n k115_4 rfl ?_
    refine y_aload_n k115_5 rfl rfl ?_
    refine y_getI k115_6 fk_6_20 h0.1 rfl ?_
    by_cases c124 : (g o0 1) ≤ x3
    · rw [if_pos c124] at hE
      refine y_icT (tgt := 40) k115_9 (by decide) c124 ?_
      refine y_iconst (v := (-1)) k115_40 oi_m1 ?_
      obtain ⟨rfl, rfl⟩ := zpr hE
      exact y_iret k115_41 rfl
    · rw [if_neg c124] at hE
      refine y_icF 40 k115_9 (by decide) c124 ?_
      refine y_aload_n k115_12 rfl rfl ?_
      refine y_getR k115_13 fk_6_14 h0.1 rfl ?_
      refine y_iload_n k115_16 rfl ?_
      obtain ⟨r120, g119, hc121, hE⟩ := zbd_some hE
      refine y_invVi (j := 21) (As := [.int x3]) (rest := []) (N := zm21) (F21 K (o0 + 1) x3 h0.2 _ r120 g119 hc121 (d + 0)) k115_17 lk_6_32 zm21_get na21 rfl (Nat.le_of_ble_eq_true rfl) h0.2.1 (by decide) rfl ?_
      refine y_iconst (v := (-1)) k115_20 oi_m1 ?_
      by_cases c123 : ¬ r120 = (-1)
      · rw [if_pos c123] at hE
        refine y_icT (tgt := 34) k115_21 (by decide) c123 ?_
        exact F115_34 K (f115_4 K n) ih o0 x1 x2 x3 h0 _ _ _ hE
      · rw [if_neg c123] at hE
        refine y_icF 34 k115_21 (by decide) c123 ?_
        refine y_iload_n k115_24 rfl ?_
        refine y_iload_n k115_25 rfl ?_
        by_cases c122 : ¬ x2 = x1
        · rw [if_pos c122] at hE
          refine y_icT (tgt := 31) k115_26 (by decide) c122 ?_
          refine y_iinc (v := (x2 + 1)) (ls2 := [some (.ref o0), some (.int x1), some (.int (x2 + 1)), some (.int x3)]) k115_31 rfl rfl (by rw [oi_1]) rfl ?_
          exact F115_34 K (f115_4 K n) ih o0 x1 (x2 + 1) x3 h0 _ _ _ hE
        · rw [if_neg c122] at hE
          refine y_icF 31 k115_26 (by decide) c122 ?_
          refine y_iload_n k115_29 rfl ?_
          obtain ⟨rfl, rfl⟩ := zpr hE
          exact y_iret k115_30 rfl
theorem F115 {L : Nat} {xs : Nat → Int32} (K : Nat) (o0 : Nat) (x1 : Int32) (h0 : zLine o0) (g : zS) (r : Int32) (g' : zS) (hE : f115 K o0 x1 g = some (r, g')) (d : Nat) : zE2 L xs (d + 2) 115 [.ref o0, .int x1] g (some (.int r)) g' := by
  refine y_ev (n := 0) (d := d + 1) (ls := [some (.ref o0), some (.int x1), none, none]) zm115_get (by decide) (Nat.le_of_ble_eq_true rfl) rfl ?_
  unfold f115 at hE
  refine y_iconst (v := 0) k115_0 oi_0 ?_
  refine y_istore_n (ls2 := [some (.ref o0), some (.int x1), some (.int 0), none]) k115_1 rfl (Nat.le_of_ble_eq_true rfl) rfl ?_
  refine y_iconst (v := 0) k115_2 oi_0 ?_
  refine y_istore_n (ls2 := [some (.ref o0), some (.int x1), some (.int 0), some (.int 0)]) k115_3 rfl (Nat.le_of_ble_eq_true rfl) rfl ?_
  exact F115_4 K K o0 x1 0 0 h0 _ _ _ hE
-- AdjectiveCoupons$Line.change
def f116 (K : Nat) (o0 : Nat) (x1 : Int32) (x2 : Int32) (g : zS) : Option (Unit × zS) := zbd (f14 K (o0 + 1) x1 x2 g) fun _ g104 => some ((), g104)
theorem F116 {L : Nat} {xs : Nat → Int32} (K : Nat) (o0 : Nat) (x1 : Int32) (x2 : Int32) (h0 : zLine o0) (g : zS) (r : Unit) (g' : zS) (hE : f116 K o0 x1 x2 g = some (r, g')) (d : Nat) : zE2 L xs (d + 2) 116 [.ref o0, .int x1, .int x2] g none g' := by
  refine y_ev (n := 0) (d := d + 1) (ls := [some (.ref o0), some (.int x1), some (.int x2)]) zm116_get (by decide) (Nat.le_of_ble_eq_true rfl) rfl ?_
  unfold f116 at hE
  refine y_aload_n k116_0 rfl rfl ?_
  refine y_getR k116_1 fk_6_14 h0.1 rfl ?_
  refine y_iload_n k116_4 rfl ?_
  refine y_iload_n k116_5 rfl ?_
  obtain ⟨u105, g104, hc106, hE⟩ := zbd_some hE
  refine y_invVv (j := 14) (As := [.int x1, .int x2]) (rest := []) (N := zm14) (F14 K (o0 + 1) x1 x2 h0.2 _ u105 g104 hc106 (d + 0)) k116_6 lk_6_24 zm14_get na14 rfl (Nat.le_of_ble_eq_true rfl) h0.2.1 (by decide) rfl ?_
  obtain ⟨rfl, rfl⟩ := zpr hE
  exact y_vret k116_9 rfl
-- AdjectiveCoupons$Drafts.sumOf
def f127_34 (K : Nat) (k5 : Nat → Int32 → Int32 → Int32 → zS → Option (Int32 × zS)) (o1 : Nat) (x2 : Int32) (x4 : Int32) (xs0 : Int32) (xs1 : Int32) (g : zS) : Option (Int32 × zS) := k5 o1 x2 (xs0 + xs1) (x4 + 1) g
def f127_5 (K : Nat) : Nat → Nat → Int32 → Int32 → Int32 → zS → Option (Int32 × zS)
  | 0, _, _, _, _, _ => none
  | n + 1, o1, x2, x3, x4, g => if (g 186 4) ≤ x4 then some (x3, g) else (zbd (f64 K x2 x4 g) fun r126 g125 => if r126 = 0 then f127_34 K (f127_5 K n) o1 x2 x4 x3 0 g125 else (zbd (f21 K o1 x4 g125) fun r129 g128 => f127_34 K (f127_5 K n) o1 x2 x4 x3 r129 g128))
def f127 (K : Nat) (o1 : Nat) (x2 : Int32) (g : zS) : Option (Int32 × zS) := f127_5 K K o1 x2 0 0 g
theorem F127_34 {L : Nat} {xs : Nat → Int32} {d : Nat} (K : Nat) (k5 : Nat → Int32 → Int32 → Int32 → zS → Option (Int32 × zS)) (hk5 : ∀ (o1 : Nat) (x2 : Int32) (x3 : Int32) (x4 : Int32) (h1 : zRow o1) (g : zS) (r : Int32) (g' : zS), k5 o1 x2 x3 x4 g = some (r, g') → zG2 L xs (d + 1) zm127 5 [some (.ref 186), some (.ref o1), some (.int x2), some (.int x3), some (.int x4)] [] g (some (.int r)) g') (o1 : Nat) (x2 : Int32) (x4 : Int32) (xs0 : Int32) (xs1 : Int32) (h1 : zRow o1) (g : zS) (r : Int32) (g' : zS) (hE : f127_34 K k5 o1 x2 x4 xs0 xs1 g = some (r, g')) : zG2 L xs (d + 1) zm127 34 [some (.ref 186), some (.ref o1), some (.int x2), none, some (.int x4)] [.int xs1, .int xs0] g (some (.int r)) g' := by
  unfold f127_34 at hE
  refine y_iadd k127_34 ?_
  refine y_istore_n (ls2 := [some (.ref 186), some (.ref o1), some (.int x2), some (.int (xs0 + xs1)), some (.int x4)]) k127_35 rfl (Nat.le_of_ble_eq_true rfl) rfl ?_
  refine y_iinc (v := (x4 + 1)) (ls2 := [some (.ref 186), some (.ref o1), some (.int x2), some (.int (xs0 + xs1)), some (.int (x4 + 1))]) k127_36 rfl rfl (by rw [oi_1]) rfl ?_
  refine y_goto (tgt := 5) k127_39 (by decide) ?_
  exact hk5 o1 x2 (xs0 + xs1) (x4 + 1) h1 _ _ _ hE
theorem F127_5 {L : Nat} {xs : Nat → Int32} {d : Nat} (K : Nat) : ∀ (n : Nat) (o1 : Nat) (x2 : Int32) (x3 : Int32) (x4 : Int32) (h1 : zRow o1) (g : zS) (r : Int32) (g' : zS) (hE : f127_5 K n o1 x2 x3 x4 g = some (r, g')), zG2 L xs (d + 1) zm127 5 [some (.ref 186), some (.ref o1), some (.int x2), some (.int x3), some (.int x4)] [] g (some (.int r)) g' := by
  intro n
  induction n with
  | zero => intro o1 x2 x3 x4 h1 g r g' hE; cases hE
  | succ n ih =>
    intro o1 x2 x3 x4 h1 g r g' hE
    rw [f127_5] at hE
    refine y_iload k127_5 rfl ?_
    refine y_aload_n k127_7 rfl rfl ?_
    refine y_getI k127_8 fk_8_34 sh186 rfl ?_
    by_cases c132 : (g 186 4) ≤ x4
    · rw [if_pos c132] at hE
      refine y_icT (tgt := 42) k127_11 (by decide) c132 ?_
      refine y_iload_n k127_42 rfl ?_
      obtain ⟨rfl, rfl⟩ := zpr hE
      exact y_iret k127_43 rfl
    · rw [if_neg c132] at hE
      refine y_icF 42 k127_11 (by decide) c132 ?_
      refine y_iload_n k127_14 rfl ?_
      refine y_iload_n k127_15 rfl ?_
      refine y_iload k127_16 rfl ?_
      obtain ⟨r126, g125, hc127, hE⟩ := zbd_some hE
      refine y_invSi (j := 64) (As := [.int x2, .int x4]) (rest := [.int x3]) (N := zm64) (F64 K x2 x4 _ r126 g125 hc127 (d + 0)) k127_18 lk_8_83 zm64_get na64 rfl (Nat.le_of_ble_eq_true rfl) ?_
      by_cases c131 : r126 = 0
      · rw [if_pos c131] at hE
        refine y_ifT (tgt := 33) k127_21 (by decide) c131 ?_
        refine y_iconst (v := 0) k127_33 oi_0 ?_
        exact y_weak (ls0 := [some (.ref 186), some (.ref o1), some (.int x2), none, some (.int x4)]) ⟨rfl, rfl, rfl, rfl, rfl, trivial⟩ (F127_34 K (f127_5 K n) ih o1 x2 x4 x3 0 h1 _ _ _ hE)
      · rw [if_neg c131] at hE
        refine y_ifF 33 k127_21 (by decide) c131 ?_
        refine y_aload_n k127_24 rfl rfl ?_
        refine y_iload k127_25 rfl ?_
        obtain ⟨r129, g128, hc130, hE⟩ := zbd_some hE
        refine y_invVi (j := 21) (As := [.int x4]) (rest := [.int x3]) (N := zm21) (F21 K o1 x4 h1 _ r129 g128 hc130 (d + 0)) k127_27 lk_8_87 zm21_get na21 rfl (Nat.le_of_ble_eq_true rfl) h1.1 (by decide) rfl ?_
        refine y_goto (tgt := 34) k127_30 (by decide) ?_
        exact y_weak (ls0 := [some (.ref 186), some (.ref o1), some (.int x2), none, some (.int x4)]) ⟨rfl, rfl, rfl, rfl, rfl, trivial⟩ (F127_34 K (f127_5 K n) ih o1 x2 x4 x3 r129 h1 _ _ _ hE)
theorem F127 {L : Nat} {xs : Nat → Int32} (K : Nat) (o1 : Nat) (x2 : Int32) (h1 : zRow o1) (g : zS) (r : Int32) (g' : zS) (hE : f127 K o1 x2 g = some (r, g')) (d : Nat) : zE2 L xs (d + 2) 127 [.ref 186, .ref o1, .int x2] g (some (.int r)) g' := by
  refine y_ev (n := 0) (d := d + 1) (ls := [some (.ref 186), some (.ref o1), some (.int x2), none, none]) zm127_get (by decide) (Nat.le_of_ble_eq_true rfl) rfl ?_
  unfold f127 at hE
  refine y_iconst (v := 0) k127_0 oi_0 ?_
  refine y_istore_n (ls2 := [some (.ref 186), some (.ref o1), some (.int x2), some (.int 0), none]) k127_1 rfl (Nat.le_of_ble_eq_true rfl) rfl ?_
  refine y_iconst (v := 0) k127_2 oi_0 ?_
  refine y_istore (ls2 := [some (.ref 186), some (.ref o1), some (.int x2), some (.int 0), some (.int 0)]) k127_3 rfl (Nat.le_of_ble_eq_true rfl) rfl ?_
  exact F127_5 K K o1 x2 0 0 h1 _ _ _ hE
-- AdjectiveCoupons$Drafts.canPay
def f132_39 (K : Nat) (k6 : Int32 → Int32 → Int32 → Int32 → Int32 → zS → Option (Int32 × zS)) (x1 : Int32) (x3 : Int32) (x4 : Int32) (x6 : Int32) (xs0 : Int32) (xs1 : Int32) (g : zS) : Option (Int32 × zS) := if 0 ≤ (xs0 - xs1) then zbd (f86 K (xs0 - xs1) x3 x4 g) fun r134 g133 => k6 x1 x3 x4 r134 (x6 + 1) g133 else (some (0, g))
def f132_6 (K : Nat) : Nat → Int32 → Int32 → Int32 → Int32 → Int32 → zS → Option (Int32 × zS)
  | 0, _, _, _, _, _, _ => none
  | n + 1, x1, x3, x4, x5, x6, g => if (g 186 4) ≤ x6 then some (1, g) else (zbd (f64 K x1 x6 g) fun r138 g137 => if r138 = 0 then f132_39 K (f132_6 K n) x1 x3 x4 x6 x5 0 g137 else (zbd (f21 K 191 x6 g137) fun r141 g140 => f132_39 K (f132_6 K n) x1 x3 x4 x6 x5 r141 g140))
def f132 (K : Nat) (x1 : Int32) (x2 : Int32) (x3 : Int32) (x4 : Int32) (g : zS) : Option (Int32 × zS) := f132_6 K K x1 x3 x4 x2 0 g
theorem F132_39 {L : Nat} {xs : Nat → Int32} {d : Nat} (K : Nat) (k6 : Int32 → Int32 → Int32 → Int32 → Int32 → zS → Option (Int32 × zS)) (hk6 : ∀ (x1 : Int32) (x3 : Int32) (x4 : Int32) (x5 : Int32) (x6 : Int32) (g : zS) (r : Int32) (g' : zS), k6 x1 x3 x4 x5 x6 g = some (r, g') → zG2 L xs (d + 1) zm132 6 [some (.ref 186), some (.int x1), none, some (.int x3), some (.int x4), some (.int x5), some (.int x6)] [] g (some (.int r)) g') (x1 : Int32) (x3 : Int32) (x4 : Int32) (x6 : Int32) (xs0 : Int32) (xs1 : Int32) (g : zS) (r : Int32) (g' : zS) (hE : f132_39 K k6 x1 x3 x4 x6 xs0 xs1 g = some (r, g')) : zG2 L xs (d + 1) zm132 39 [some (.ref 186), some (.int x1), none, some (.int x3), some (.int x4), none, some (.int x6)] [.int xs1, .int xs0] g (some (.int r)) g' := by
  unfold f132_39 at hE
  refine y_isub k132_39 ?_
  refine y_istore (ls2 := [some (.ref 186), some (.int x1), none, some (.int x3), some (.int x4), some (.int (xs0 - xs1)), some (.int x6)]) k132_40 rfl (Nat.le_of_ble_eq_true rfl) rfl ?_
  refine y_iload k132_42 rfl ?_
  by_cases c136 : 0 ≤ (xs0 - xs1)
  · rw [if_pos c136] at hE
    refine y_ifT (tgt := 49) k132_44 (by decide) c136 ?_
    refine y_iload k132_49 rfl ?_
    refine y_iload_n k132_51 rfl ?_
    refine y_iload k132_52 rfl ?_
    obtain ⟨r134, g133, hc135, hE⟩ := zbd_some hE
    refine y_invSi (j := 86) (As := [.int (xs0 - xs1), .int x3, .int x4]) (rest := []) (N := zm86) (F86 K (xs0 - xs1) x3 x4 _ r134 g133 hc135 (d + 0)) k132_54 lk_8_90 zm86_get na86 rfl (Nat.le_of_ble_eq_true rfl) ?_
    refine y_istore (ls2 := [some (.ref 186), some (.int x1), none, some (.int x3), some (.int x4), some (.int r134), some (.int x6)]) k132_57 rfl (Nat.le_of_ble_eq_true rfl) rfl ?_
    refine y_iinc (v := (x6 + 1)) (ls2 := [some (.ref 186), some (.int x1), none, some (.int x3), some (.int x4), some (.int r134), some (.int (x6 + 1))]) k132_59 rfl rfl (by rw [oi_1]) rfl ?_
    refine y_goto (tgt := 6) k132_62 (by decide) ?_
    exact hk6 x1 x3 x4 r134 (x6 + 1) _ _ _ hE
  · rw [if_neg c136] at hE
    refine y_ifF 49 k132_44 (by decide) c136 ?_
    refine y_iconst (v := 0) k132_47 oi_0 ?_
    obtain ⟨rfl, rfl⟩ := zpr hE
    exact y_zret k132_48 rfl (by decide)
theorem F132_6 {L : Nat} {xs : Nat → Int32} {d : Nat} (K : Nat) : ∀ (n : Nat) (x1 : Int32) (x3 : Int32) (x4 : Int32) (x5 : Int32) (x6 : Int32) (g : zS) (r : Int32) (g' : zS) (hE : f132_6 K n x1 x3 x4 x5 x6 g = some (r, g')), zG2 L xs (d + 1) zm132 6 [some (.ref 186), some (.int x1), none, some (.int x3), some (.int x4), some (.int x5), some (.int x6)] [] g (some (.int r)) g' := by
  intro n
  induction n with
  | zero => intro x1 x3 x4 x5 x6  g r g' hE; cases hE
  | succ n ih =>
    intro x1 x3 x4 x5 x6  g r g' hE
    rw [f132_6] at hE
    refine y_iload k132_6 rfl ?_
    refine y_aload_n k132_8 rfl rfl ?_
    refine y_getI k132_9 fk_8_34 sh186 rfl ?_
    by_cases c144 : (g 186 4) ≤ x6
    · rw [if_pos c144] at hE
      refine y_icT (tgt := 65) k132_12 (by decide) c144 ?_
      refine y_iconst (v := 1) k132_65 oi_1 ?_
      obtain ⟨rfl, rfl⟩ := zpr hE
      exact y_zret k132_66 rfl (by decide)
    · rw [if_neg c144] at hE
      refine y_icF 65 k132_12 (by decide) c144 ?_
      refine y_iload k132_15 rfl ?_
      refine y_iload_n k132_17 rfl ?_
      refine y_iload k132_18 rfl ?_
      obtain ⟨r138, g137, hc139, hE⟩ := zbd_some hE
      refine y_invSi (j := 64) (As := [.int x1, .int x6]) (rest := [.int x5]) (N := zm64) (F64 K x1 x6 _ r138 g137 hc139 (d + 0)) k132_20 lk_8_83 zm64_get na64 rfl (Nat.le_of_ble_eq_true rfl) ?_
      by_cases c143 : r138 = 0
      · rw [if_pos c143] at hE
        refine y_ifT (tgt := 38) k132_23 (by decide) c143 ?_
        refine y_iconst (v := 0) k132_38 oi_0 ?_
        exact y_weak (ls0 := [some (.ref 186), some (.int x1), none, some (.int x3), some (.int x4), none, some (.int x6)]) ⟨rfl, rfl, rfl, rfl, rfl, rfl, rfl, trivial⟩ (F132_39 K (f132_6 K n) ih x1 x3 x4 x6 x5 0 _ _ _ hE)
      · rw [if_neg c143] at hE
        refine y_ifF 38 k132_23 (by decide) c143 ?_
        refine y_aload_n k132_26 rfl rfl ?_
        refine y_getR k132_27 fk_8_27 sh186 rfl ?_
        refine y_iload k132_30 rfl ?_
        obtain ⟨r141, g140, hc142, hE⟩ := zbd_some hE
        refine y_invVi (j := 21) (As := [.int x6]) (rest := [.int x5]) (N := zm21) (F21 K 191 x6 rw191 _ r141 g140 hc142 (d + 0)) k132_32 lk_8_87 zm21_get na21 rfl (Nat.le_of_ble_eq_true rfl) sh191 (by decide) rfl ?_
        refine y_goto (tgt := 39) k132_35 (by decide) ?_
        exact y_weak (ls0 := [some (.ref 186), some (.int x1), none, some (.int x3), some (.int x4), none, some (.int x6)]) ⟨rfl, rfl, rfl, rfl, rfl, rfl, rfl, trivial⟩ (F132_39 K (f132_6 K n) ih x1 x3 x4 x6 x5 r141 _ _ _ hE)
theorem F132 {L : Nat} {xs : Nat → Int32} (K : Nat) (x1 : Int32) (x2 : Int32) (x3 : Int32) (x4 : Int32) (g : zS) (r : Int32) (g' : zS) (hE : f132 K x1 x2 x3 x4 g = some (r, g')) (d : Nat) : zE2 L xs (d + 2) 132 [.ref 186, .int x1, .int x2, .int x3, .int x4] g (some (.int r)) g' := by
  refine y_ev (n := 0) (d := d + 1) (ls := [some (.ref 186), some (.int x1), some (.int x2), some (.int x3), some (.int x4), none, none]) zm132_get (by decide) (Nat.le_of_ble_eq_true rfl) rfl ?_
  unfold f132 at hE
  refine y_iload_n k132_0 rfl ?_
  refine y_istore (ls2 := [some (.ref 186), some (.int x1), some (.int x2), some (.int x3), some (.int x4), some (.int x2), none]) k132_1 rfl (Nat.le_of_ble_eq_true rfl) rfl ?_
  refine y_iconst (v := 0) k132_3 oi_0 ?_
  refine y_istore (ls2 := [some (.ref 186), some (.int x1), some (.int x2), some (.int x3), some (.int x4), some (.int x2), some (.int 0)]) k132_4 rfl (Nat.le_of_ble_eq_true rfl) rfl ?_
  exact y_weak (ls0 := [some (.ref 186), some (.int x1), none, some (.int x3), some (.int x4), some (.int x2), some (.int 0)]) ⟨rfl, rfl, rfl, rfl, rfl, rfl, rfl, trivial⟩ (F132_6 K K x1 x3 x4 x2 0 _ _ _ hE)
-- AdjectiveCoupons.isTradeLeft
def f137 (K : Nat) (x1 : Int32) (x2 : Int32) (g : zS) : Option (Int32 × zS) := zbd (f21 K 11 x1 g) fun r122 g121 => if x1 = x2 then some (0, g121) else (zbd (f21 K 35 x1 g121) fun r125 g124 => if r125 ≤ 0 then some (0, g124) else (zbd (f21 K 35 x2 g124) fun r128 g127 => if 60 ≤ r128 then some (0, g127) else (zbd (f21 K 37 x2 g127) fun r131 g130 => if r131 < (r122 + 1) then some (0, g130) else (zbd (f21 K 11 x2 g130) fun r134 g133 => if r134 ≤ (r122 + 1) then some (0, g133) else (some (1, g133))))))
theorem F137 {L : Nat} {xs : Nat → Int32} (K : Nat) (x1 : Int32) (x2 : Int32) (g : zS) (r : Int32) (g' : zS) (hE : f137 K x1 x2 g = some (r, g')) (d : Nat) : zE2 L xs (d + 2) 137 [.ref 0, .int x1, .int x2] g (some (.int r)) g' := by
  refine y_ev (n := 0) (d := d + 1) (ls := [some (.ref 0), some (.int x1), some (.int x2), none]) zm137_get (by decide) (Nat.le_of_ble_eq_true rfl) rfl ?_
  unfold f137 at hE
  refine y_aload_n k137_0 rfl rfl ?_
  refine y_getR k137_1 fk_0_19 sh0 rfl ?_
  refine y_getR k137_4 fk_0_153 sh4 rfl ?_
  refine y_iload_n k137_7 rfl ?_
  obtain ⟨r122, g121, hc123, hE⟩ := zbd_some hE
  refine y_invVi (j := 21) (As := [.int x1]) (rest := []) (N := zm21) (F21 K 11 x1 rw11 _ r122 g121 hc123 (d + 0)) k137_8 lk_0_122 zm21_get na21 rfl (Nat.le_of_ble_eq_true rfl) sh11 (by decide) rfl ?_
  refine y_iconst (v := 1) k137_11 oi_1 ?_
  refine y_iadd k137_12 ?_
  refine y_istore_n (ls2 := [some (.ref 0), some (.int x1), some (.int x2), some (.int (r122 + 1))]) k137_13 rfl (Nat.le_of_ble_eq_true rfl) rfl ?_
  refine y_iload_n k137_14 rfl ?_
  refine y_iload_n k137_15 rfl ?_
  by_cases c140 : x1 = x2
  · rw [if_pos c140] at hE
    refine y_icT (tgt := 83) k137_16 (by decide) c140 ?_
    refine y_iconst (v := 0) k137_83 oi_0 ?_
    obtain ⟨rfl, rfl⟩ := zpr hE
    exact y_zret k137_84 rfl (by decide)
  · rw [if_neg c140] at hE
    refine y_icF 83 k137_16 (by decide) c140 ?_
    refine y_aload_n k137_19 rfl rfl ?_
    refine y_getR k137_20 fk_0_29 sh0 rfl ?_
    refine y_getR k137_23 fk_0_140 sh34 rfl ?_
    refine y_iload_n k137_26 rfl ?_
    obtain ⟨r125, g124, hc126, hE⟩ := zbd_some hE
    refine y_invVi (j := 21) (As := [.int x1]) (rest := []) (N := zm21) (F21 K 35 x1 rw35 _ r125 g124 hc126 (d + 0)) k137_27 lk_0_122 zm21_get na21 rfl (Nat.le_of_ble_eq_true rfl) sh35 (by decide) rfl ?_
    by_cases c139 : r125 ≤ 0
    · rw [if_pos c139] at hE
      refine y_ifT (tgt := 83) k137_30 (by decide) c139 ?_
      refine y_iconst (v := 0) k137_83 oi_0 ?_
      obtain ⟨rfl, rfl⟩ := zpr hE
      exact y_zret k137_84 rfl (by decide)
    · rw [if_neg c139] at hE
      refine y_ifF 83 k137_30 (by decide) c139 ?_
      refine y_aload_n k137_33 rfl rfl ?_
      refine y_getR k137_34 fk_0_29 sh0 rfl ?_
      refine y_getR k137_37 fk_0_140 sh34 rfl ?_
      refine y_iload_n k137_40 rfl ?_
      obtain ⟨r128, g127, hc129, hE⟩ := zbd_some hE
      refine y_invVi (j := 21) (As := [.int x2]) (rest := []) (N := zm21) (F21 K 35 x2 rw35 _ r128 g127 hc129 (d + 0)) k137_41 lk_0_122 zm21_get na21 rfl (Nat.le_of_ble_eq_true rfl) sh35 (by decide) rfl ?_
      refine y_bipush (v := 60) k137_44 b8_60 ?_
      by_cases c138 : 60 ≤ r128
      · rw [if_pos c138] at hE
        refine y_icT (tgt := 83) k137_46 (by decide) c138 ?_
        refine y_iconst (v := 0) k137_83 oi_0 ?_
        obtain ⟨rfl, rfl⟩ := zpr hE
        exact y_zret k137_84 rfl (by decide)
      · rw [if_neg c138] at hE
        refine y_icF 83 k137_46 (by decide) c138 ?_
        refine y_aload_n k137_49 rfl rfl ?_
        refine y_getR k137_50 fk_0_29 sh0 rfl ?_
        refine y_getR k137_53 fk_0_143 sh34 rfl ?_
        refine y_iload_n k137_56 rfl ?_
        obtain ⟨r131, g130, hc132, hE⟩ := zbd_some hE
        refine y_invVi (j := 21) (As := [.int x2]) (rest := []) (N := zm21) (F21 K 37 x2 rw37 _ r131 g130 hc132 (d + 0)) k137_57 lk_0_122 zm21_get na21 rfl (Nat.le_of_ble_eq_true rfl) sh37 (by decide) rfl ?_
        refine y_iload_n k137_60 rfl ?_
        by_cases c137 : r131 < (r122 + 1)
        · rw [if_pos c137] at hE
          refine y_icT (tgt := 83) k137_61 (by decide) c137 ?_
          refine y_iconst (v := 0) k137_83 oi_0 ?_
          obtain ⟨rfl, rfl⟩ := zpr hE
          exact y_zret k137_84 rfl (by decide)
        · rw [if_neg c137] at hE
          refine y_icF 83 k137_61 (by decide) c137 ?_
          refine y_aload_n k137_64 rfl rfl ?_
          refine y_getR k137_65 fk_0_19 sh0 rfl ?_
          refine y_getR k137_68 fk_0_153 sh4 rfl ?_
          refine y_iload_n k137_71 rfl ?_
          obtain ⟨r134, g133, hc135, hE⟩ := zbd_some hE
          refine y_invVi (j := 21) (As := [.int x2]) (rest := []) (N := zm21) (F21 K 11 x2 rw11 _ r134 g133 hc135 (d + 0)) k137_72 lk_0_122 zm21_get na21 rfl (Nat.le_of_ble_eq_true rfl) sh11 (by decide) rfl ?_
          refine y_iload_n k137_75 rfl ?_
          by_cases c136 : r134 ≤ (r122 + 1)
          · rw [if_pos c136] at hE
            refine y_icT (tgt := 83) k137_76 (by decide) c136 ?_
            refine y_iconst (v := 0) k137_83 oi_0 ?_
            obtain ⟨rfl, rfl⟩ := zpr hE
            exact y_zret k137_84 rfl (by decide)
          · rw [if_neg c136] at hE
            refine y_icF 83 k137_76 (by decide) c136 ?_
            refine y_iconst (v := 1) k137_79 oi_1 ?_
            refine y_goto (tgt := 84) k137_80 (by decide) ?_
            obtain ⟨rfl, rfl⟩ := zpr hE
            exact y_zret k137_84 rfl (by decide)
-- AdjectiveCoupons.count
def f142 (K : Nat) (x1 : Int32) (g : zS) : Option (Int32 × zS) := if x1 = 0 then some ((g 4 0), g) else if x1 = 1 then some ((g 4 1), g) else if x1 = 2 then some ((g 4 2), g) else if x1 = 3 then some ((g 4 3), g) else if x1 = 4 then some ((g 4 4), g) else if x1 = 5 then some ((g 34 0), g) else if x1 = 6 then some ((g 180 1), g) else if x1 = 7 then some ((g 186 4), g) else if x1 = 8 then some ((g 47 3), g) else if x1 = 9 then zbd (f143 K 35 g) fun r130 g129 => some (r130, g129) else if x1 = 10 then zbd (f143 K 37 g) fun r134 g133 => some (r134, g133) else if x1 = 11 then some ((g 1 1), g) else (some ((-3), g))
theorem F142 {L : Nat} {xs : Nat → Int32} (K : Nat) (x1 : Int32) (g : zS) (r : Int32) (g' : zS) (hE : f142 K x1 g = some (r, g')) (d : Nat) : zE2 L xs (d + 2) 142 [.ref 0, .int x1] g (some (.int r)) g' := by
  refine y_ev (n := 0) (d := d + 1) (ls := [some (.ref 0), some (.int x1)]) zm142_get (by decide) (Nat.le_of_ble_eq_true rfl) rfl ?_
  unfold f142 at hE
  refine y_iload_n k142_0 rfl ?_
  by_cases c119 : x1 = 0
  · rw [if_pos c119] at hE
    refine y_tsw (tgt := 64) (off := 63) 0 k142_1 c119 (by decide) (by decide) (by decide) (by decide) ?_
    refine y_aload_n k142_64 rfl rfl ?_
    refine y_getR k142_65 fk_0_19 sh0 rfl ?_
    refine y_getI k142_68 fk_0_250 sh4 rfl ?_
    obtain ⟨rfl, rfl⟩ := zpr hE
    exact y_iret k142_71 rfl
  · rw [if_neg c119] at hE
    by_cases c120 : x1 = 1
    · rw [if_pos c120] at hE
      refine y_tsw (tgt := 72) (off := 71) 1 k142_1 c120 (by decide) (by decide) (by decide) (by decide) ?_
      refine y_aload_n k142_72 rfl rfl ?_
      refine y_getR k142_73 fk_0_19 sh0 rfl ?_
      refine y_getI k142_76 fk_0_88 sh4 rfl ?_
      obtain ⟨rfl, rfl⟩ := zpr hE
      exact y_iret k142_79 rfl
    · rw [if_neg c120] at hE
      by_cases c121 : x1 = 2
      · rw [if_pos c121] at hE
        refine y_tsw (tgt := 80) (off := 79) 2 k142_1 c121 (by decide) (by decide) (by decide) (by decide) ?_
        refine y_aload_n k142_80 rfl rfl ?_
        refine y_getR k142_81 fk_0_19 sh0 rfl ?_
        refine y_getI k142_84 fk_0_309 sh4 rfl ?_
        obtain ⟨rfl, rfl⟩ := zpr hE
        exact y_iret k142_87 rfl
      · rw [if_neg c121] at hE
        by_cases c122 : x1 = 3
        · rw [if_pos c122] at hE
          refine y_tsw (tgt := 88) (off := 87) 3 k142_1 c122 (by decide) (by decide) (by decide) (by decide) ?_
          refine y_aload_n k142_88 rfl rfl ?_
          refine y_getR k142_89 fk_0_19 sh0 rfl ?_
          refine y_getI k142_92 fk_0_91 sh4 rfl ?_
          obtain ⟨rfl, rfl⟩ := zpr hE
          exact y_iret k142_95 rfl
        · rw [if_neg c122] at hE
          by_cases c123 : x1 = 4
          · rw [if_pos c123] at hE
            refine y_tsw (tgt := 96) (off := 95) 4 k142_1 c123 (by decide) (by decide) (by decide) (by decide) ?_
            refine y_aload_n k142_96 rfl rfl ?_
            refine y_getR k142_97 fk_0_19 sh0 rfl ?_
            refine y_getI k142_100 fk_0_312 sh4 rfl ?_
            obtain ⟨rfl, rfl⟩ := zpr hE
            exact y_iret k142_103 rfl
          · rw [if_neg c123] at hE
            by_cases c124 : x1 = 5
            · rw [if_pos c124] at hE
              refine y_tsw (tgt := 104) (off := 103) 5 k142_1 c124 (by decide) (by decide) (by decide) (by decide) ?_
              refine y_aload_n k142_104 rfl rfl ?_
              refine y_getR k142_105 fk_0_29 sh0 rfl ?_
              refine y_getI k142_108 fk_0_111 sh34 rfl ?_
              obtain ⟨rfl, rfl⟩ := zpr hE
              exact y_iret k142_111 rfl
            · rw [if_neg c124] at hE
              by_cases c125 : x1 = 6
              · rw [if_pos c125] at hE
                refine y_tsw (tgt := 112) (off := 111) 6 k142_1 c125 (by decide) (by decide) (by decide) (by decide) ?_
                refine y_aload_n k142_112 rfl rfl ?_
                refine y_getR k142_113 fk_0_43 sh0 rfl ?_
                refine y_getI k142_116 fk_0_101 sh180 rfl ?_
                obtain ⟨rfl, rfl⟩ := zpr hE
                exact y_iret k142_119 rfl
              · rw [if_neg c125] at hE
                by_cases c126 : x1 = 7
                · rw [if_pos c126] at hE
                  refine y_tsw (tgt := 120) (off := 119) 7 k142_1 c126 (by decide) (by decide) (by decide) (by decide) ?_
                  refine y_aload_n k142_120 rfl rfl ?_
                  refine y_getR k142_121 fk_0_57 sh0 rfl ?_
                  refine y_getI k142_124 fk_0_102 sh186 rfl ?_
                  obtain ⟨rfl, rfl⟩ := zpr hE
                  exact y_iret k142_127 rfl
                · rw [if_neg c126] at hE
                  by_cases c127 : x1 = 8
                  · rw [if_pos c127] at hE
                    refine y_tsw (tgt := 128) (off := 127) 8 k142_1 c127 (by decide) (by decide) (by decide) (by decide) ?_
                    refine y_aload_n k142_128 rfl rfl ?_
                    refine y_getR k142_129 fk_0_36 sh0 rfl ?_
                    refine y_getI k142_132 fk_0_215 sh47 rfl ?_
                    obtain ⟨rfl, rfl⟩ := zpr hE
                    exact y_iret k142_135 rfl
                  · rw [if_neg c127] at hE
                    by_cases c128 : x1 = 9
                    · rw [if_pos c128] at hE
                      refine y_tsw (tgt := 136) (off := 135) 9 k142_1 c128 (by decide) (by decide) (by decide) (by decide) ?_
                      refine y_aload_n k142_136 rfl rfl ?_
                      refine y_getR k142_137 fk_0_29 sh0 rfl ?_
                      refine y_getR k142_140 fk_0_140 sh34 rfl ?_
                      obtain ⟨r130, g129, hc131, hE⟩ := zbd_some hE
                      refine y_invVi (j := 143) (As := []) (rest := []) (N := zm143) (F143 K 35 rw35 _ r130 g129 hc131 (d + 0)) k142_143 lk_0_315 zm143_get na143 rfl (Nat.le_of_ble_eq_true rfl) sh35 (by decide) rfl ?_
                      obtain ⟨rfl, rfl⟩ := zpr hE
                      exact y_iret k142_146 rfl
                    · rw [if_neg c128] at hE
                      by_cases c132 : x1 = 10
                      · rw [if_pos c132] at hE
                        refine y_tsw (tgt := 147) (off := 146) 10 k142_1 c132 (by decide) (by decide) (by decide) (by decide) ?_
                        refine y_aload_n k142_147 rfl rfl ?_
                        refine y_getR k142_148 fk_0_29 sh0 rfl ?_
                        refine y_getR k142_151 fk_0_143 sh34 rfl ?_
                        obtain ⟨r134, g133, hc135, hE⟩ := zbd_some hE
                        refine y_invVi (j := 143) (As := []) (rest := []) (N := zm143) (F143 K 37 rw37 _ r134 g133 hc135 (d + 0)) k142_154 lk_0_315 zm143_get na143 rfl (Nat.le_of_ble_eq_true rfl) sh37 (by decide) rfl ?_
                        obtain ⟨rfl, rfl⟩ := zpr hE
                        exact y_iret k142_157 rfl
                      · rw [if_neg c132] at hE
                        by_cases c136 : x1 = 11
                        · rw [if_pos c136] at hE
                          refine y_tsw (tgt := 158) (off := 157) 11 k142_1 c136 (by decide) (by decide) (by decide) (by decide) ?_
                          refine y_aload_n k142_158 rfl rfl ?_
                          refine y_getR k142_159 fk_0_10 sh0 rfl ?_
                          refine y_getI k142_162 fk_0_76 sh1 rfl ?_
                          obtain ⟨rfl, rfl⟩ := zpr hE
                          exact y_iret k142_165 rfl
                        · rw [if_neg c136] at hE
                          have w1 : x1.toInt < 0 ∨ 11 < x1.toInt := by
                            have e0 := lv_neT (a := 0) c119 (by decide)
                            have e1 := lv_neT (a := 1) c120 (by decide)
                            have e2 := lv_neT (a := 2) c121 (by decide)
                            have e3 := lv_neT (a := 3) c122 (by decide)
                            have e4 := lv_neT (a := 4) c123 (by decide)
                            have e5 := lv_neT (a := 5) c124 (by decide)
                            have e6 := lv_neT (a := 6) c125 (by decide)
                            have e7 := lv_neT (a := 7) c126 (by decide)
                            have e8 := lv_neT (a := 8) c127 (by decide)
                            have e9 := lv_neT (a := 9) c128 (by decide)
                            have e10 := lv_neT (a := 10) c132 (by decide)
                            have e11 := lv_neT (a := 11) c136 (by decide)
                            omega
                          refine y_tswD (tgt := 166) k142_1 w1 (by decide) ?_
                          refine y_bipush (v := (-3)) k142_166 b8_m3 ?_
                          obtain ⟨rfl, rfl⟩ := zpr hE
                          exact y_iret k142_168 rfl
-- AdjectiveCoupons.write
def f11 (K : Nat) (x1 : Int32) (g : zS) : Option (Int32 × zS) := zbd (f12 K x1 0 255 g) fun r110 g109 => if ¬ r110 = 0 then zbd (f13 K x1 g109) fun r113 g112 => if r113 = 0 then some ((-5), g112) else (some ((g112 1 1), g112)) else (some ((-3), g109))
theorem F11 {L : Nat} {xs : Nat → Int32} (K : Nat) (x1 : Int32) (g : zS) (r : Int32) (g' : zS) (hE : f11 K x1 g = some (r, g')) (d : Nat) : zE2 L xs (d + 3) 11 [.ref 0, .int x1] g (some (.int r)) g' := by
  refine y_ev (n := 0) (d := d + 2) (ls := [some (.ref 0), some (.int x1)]) zm11_get (by decide) (Nat.le_of_ble_eq_true rfl) rfl ?_
  unfold f11 at hE
  refine y_iload_n k11_0 rfl ?_
  refine y_iconst (v := 0) k11_1 oi_0 ?_
  refine y_sipush (v := 255) k11_2 s16_255 ?_
  obtain ⟨r110, g109, hc111, hE⟩ := zbd_some hE
  refine y_invSi (j := 12) (As := [.int x1, .int 0, .int 255]) (rest := []) (N := zm12) (F12 K x1 0 255 _ r110 g109 hc111 (d + 1)) k11_5 lk_0_68 zm12_get na12 rfl (Nat.le_of_ble_eq_true rfl) ?_
  by_cases c116 : ¬ r110 = 0
  · rw [if_pos c116] at hE
    refine y_ifT (tgt := 14) k11_8 (by decide) c116 ?_
    refine y_aload_n k11_14 rfl rfl ?_
    refine y_getR k11_15 fk_0_10 sh0 rfl ?_
    refine y_iload_n k11_18 rfl ?_
    obtain ⟨r113, g112, hc114, hE⟩ := zbd_some hE
    refine y_invVi (j := 13) (As := [.int x1]) (rest := []) (N := zm13) (F13 K x1 _ r113 g112 hc114 (d + 0)) k11_19 lk_0_72 zm13_get na13 rfl (Nat.le_of_ble_eq_true rfl) sh1 (by decide) rfl ?_
    by_cases c115 : r113 = 0
    · rw [if_pos c115] at hE
      refine y_ifT (tgt := 35) k11_22 (by decide) c115 ?_
      refine y_bipush (v := (-5)) k11_35 b8_m5 ?_
      obtain ⟨rfl, rfl⟩ := zpr hE
      exact y_iret k11_37 rfl
    · rw [if_neg c115] at hE
      refine y_ifF 35 k11_22 (by decide) c115 ?_
      refine y_aload_n k11_25 rfl rfl ?_
      refine y_getR k11_26 fk_0_10 sh0 rfl ?_
      refine y_getI k11_29 fk_0_76 sh1 rfl ?_
      refine y_goto (tgt := 37) k11_32 (by decide) ?_
      obtain ⟨rfl, rfl⟩ := zpr hE
      exact y_iret k11_37 rfl
  · rw [if_neg c116] at hE
    refine y_ifF 14 k11_8 (by decide) c116 ?_
    refine y_bipush (v := (-3)) k11_11 b8_m3 ?_
    obtain ⟨rfl, rfl⟩ := zpr hE
    exact y_iret k11_13 rfl
-- AdjectiveCoupons$Text.step
def f20_93 (K : Nat) : Nat → Int32 → zS → Option (Unit × zS)
  | 0, _, _ => none
  | n + 1, x1, g => if x1 = 0 then some ((), g) else if (g 1 1) ≤ (g 1 4) then some ((), g) else (zbd (f21 K 2 (g 1 4) g) fun r161 g160 => zbd (f22 K r161 g160) fun r164 g163 => if ¬ r164 = x1 then some ((), g163) else ((f20_93 K n) x1 (zup g163 1 4 ((g163 1 4) + 1))))
def f20_48 (K : Nat) (g : zS) : Option (Unit × zS) := if ((zup g 1 4 (g 1 3)) 1 3) < ((zup g 1 4 (g 1 3)) 1 1) then zbd (f21 K 2 ((zup g 1 4 (g 1 3)) 1 3) (zup g 1 4 (g 1 3))) fun r170 g169 => zbd (f22 K r170 g169) fun r173 g172 => f20_93 K K r173 (zup g172 1 4 ((g172 1 4) + 1)) else (some ((), (zup g 1 4 (g 1 3))))
def f20_8 (K : Nat) : Nat → zS → Option (Unit × zS)
  | 0, _ => none
  | n + 1, g => if (g 1 1) ≤ (g 1 3) then f20_48 K  g else (zbd (f21 K 2 (g 1 3) g) fun r177 g176 => if ¬ r177 = 32 then f20_48 K  g176 else ((f20_8 K n)  (zup g176 1 3 ((g176 1 3) + 1))))
def f20 (K : Nat) (g : zS) : Option (Unit × zS) := f20_8 K K  (zup g 1 3 (g 1 4))
theorem F20_93 {L : Nat} {xs : Nat → Int32} {d : Nat} (K : Nat) : ∀ (n : Nat) (x1 : Int32) (g : zS) (r : Unit) (g' : zS) (hE : f20_93 K n x1 g = some (r, g')), zG2 L xs (d + 2) zm20 93 [some (.ref 1), some (.int x1)] [] g none g' := by
  intro n
  induction n with
  | zero => intro x1  g r g' hE; cases hE
  | succ n ih =>
    intro x1  g r g' hE
    rw [f20_93] at hE
    refine y_iload_n k20_93 rfl ?_
    by_cases c168 : x1 = 0
    · rw [if_pos c168] at hE
      refine y_ifT (tgt := 139) k20_94 (by decide) c168 ?_
      obtain ⟨rfl, rfl⟩ := zpr hE
      exact y_vret k20_139 rfl
    · rw [if_neg c168] at hE
      refine y_ifF 139 k20_94 (by decide) c168 ?_
      refine y_aload_n k20_97 rfl rfl ?_
      refine y_getI k20_98 fk_1_28 sh1 rfl ?_
      refine y_aload_n k20_101 rfl rfl ?_
      refine y_getI k20_102 fk_1_20 sh1 rfl ?_
      by_cases c167 : (g 1 1) ≤ (g 1 4)
      · rw [if_pos c167] at hE
        refine y_icT (tgt := 139) k20_105 (by decide) c167 ?_
        obtain ⟨rfl, rfl⟩ := zpr hE
        exact y_vret k20_139 rfl
      · rw [if_neg c167] at hE
        refine y_icF 139 k20_105 (by decide) c167 ?_
        refine y_aload_n k20_108 rfl rfl ?_
        refine y_getR k20_109 fk_1_14 sh1 rfl ?_
        refine y_aload_n k20_112 rfl rfl ?_
        refine y_getI k20_113 fk_1_28 sh1 rfl ?_
        obtain ⟨r161, g160, hc162, hE⟩ := zbd_some hE
        refine y_invVi (j := 21) (As := [.int (g 1 4)]) (rest := []) (N := zm21) (F21 K 2 (g 1 4) rw2 _ r161 g160 hc162 (d + 1)) k20_116 lk_1_44 zm21_get na21 rfl (Nat.le_of_ble_eq_true rfl) sh2 (by decide) rfl ?_
        obtain ⟨r164, g163, hc165, hE⟩ := zbd_some hE
        refine y_invSi (j := 22) (As := [.int r161]) (rest := []) (N := zm22) (F22 K r161 _ r164 g163 hc165 (d + 0)) k20_119 lk_1_91 zm22_get na22 rfl (Nat.le_of_ble_eq_true rfl) ?_
        refine y_iload_n k20_122 rfl ?_
        by_cases c166 : ¬ r164 = x1
        · rw [if_pos c166] at hE
          refine y_icT (tgt := 139) k20_123 (by decide) c166 ?_
          obtain ⟨rfl, rfl⟩ := zpr hE
          exact y_vret k20_139 rfl
        · rw [if_neg c166] at hE
          refine y_icF 139 k20_123 (by decide) c166 ?_
          refine y_aload_n k20_126 rfl rfl ?_
          refine y_dup k20_127 rfl ?_
          refine y_getI k20_128 fk_1_28 sh1 rfl ?_
          refine y_iconst (v := 1) k20_131 oi_1 ?_
          refine y_iadd k20_132 ?_
          refine y_putI k20_133 fk_1_28 sh1 rfl pi_1_4.1 pi_1_4.2 ?_
          refine y_goto (tgt := 93) k20_136 (by decide) ?_
          exact ih x1 _ _ _ hE
theorem F20_48 {L : Nat} {xs : Nat → Int32} {d : Nat} (K : Nat) (g : zS) (r : Unit) (g' : zS) (hE : f20_48 K  g = some (r, g')) : zG2 L xs (d + 2) zm20 48 [some (.ref 1), none] [] g none g' := by
  unfold f20_48 at hE
  refine y_aload_n k20_48 rfl rfl ?_
  refine y_aload_n k20_49 rfl rfl ?_
  refine y_getI k20_50 fk_1_41 sh1 rfl ?_
  refine y_putI k20_53 fk_1_28 sh1 rfl pi_1_4.1 pi_1_4.2 ?_
  refine y_aload_n k20_56 rfl rfl ?_
  refine y_getI k20_57 fk_1_41 sh1 rfl ?_
  refine y_aload_n k20_60 rfl rfl ?_
  refine y_getI k20_61 fk_1_20 sh1 rfl ?_
  by_cases c175 : ((zup g 1 4 (g 1 3)) 1 3) < ((zup g 1 4 (g 1 3)) 1 1)
  · rw [if_pos c175] at hE
    refine y_icT (tgt := 68) k20_64 (by decide) c175 ?_
    refine y_aload_n k20_68 rfl rfl ?_
    refine y_getR k20_69 fk_1_14 sh1 rfl ?_
    refine y_aload_n k20_72 rfl rfl ?_
    refine y_getI k20_73 fk_1_41 sh1 rfl ?_
    obtain ⟨r170, g169, hc171, hE⟩ := zbd_some hE
    refine y_invVi (j := 21) (As := [.int ((zup g 1 4 (g 1 3)) 1 3)]) (rest := []) (N := zm21) (F21 K 2 ((zup g 1 4 (g 1 3)) 1 3) rw2 _ r170 g169 hc171 (d + 1)) k20_76 lk_1_44 zm21_get na21 rfl (Nat.le_of_ble_eq_true rfl) sh2 (by decide) rfl ?_
    obtain ⟨r173, g172, hc174, hE⟩ := zbd_some hE
    refine y_invSi (j := 22) (As := [.int r170]) (rest := []) (N := zm22) (F22 K r170 _ r173 g172 hc174 (d + 0)) k20_79 lk_1_91 zm22_get na22 rfl (Nat.le_of_ble_eq_true rfl) ?_
    refine y_istore_n (ls2 := [some (.ref 1), some (.int r173)]) k20_82 rfl (Nat.le_of_ble_eq_true rfl) rfl ?_
    refine y_aload_n k20_83 rfl rfl ?_
    refine y_dup k20_84 rfl ?_
    refine y_getI k20_85 fk_1_28 sh1 rfl ?_
    refine y_iconst (v := 1) k20_88 oi_1 ?_
    refine y_iadd k20_89 ?_
    refine y_putI k20_90 fk_1_28 sh1 rfl pi_1_4.1 pi_1_4.2 ?_
    exact F20_93 K K r173 _ _ _ hE
  · rw [if_neg c175] at hE
    refine y_icF 68 k20_64 (by decide) c175 ?_
    obtain ⟨rfl, rfl⟩ := zpr hE
    exact y_vret k20_67 rfl
theorem F20_8 {L : Nat} {xs : Nat → Int32} {d : Nat} (K : Nat) : ∀ (n : Nat) (g : zS) (r : Unit) (g' : zS) (hE : f20_8 K n  g = some (r, g')), zG2 L xs (d + 2) zm20 8 [some (.ref 1), none] [] g none g' := by
  intro n
  induction n with
  | zero => intro   g r g' hE; cases hE
  | succ n ih =>
    intro   g r g' hE
    rw [f20_8] at hE
    refine y_aload_n k20_8 rfl rfl ?_
    refine y_getI k20_9 fk_1_41 sh1 rfl ?_
    refine y_aload_n k20_12 rfl rfl ?_
    refine y_getI k20_13 fk_1_20 sh1 rfl ?_
    by_cases c180 : (g 1 1) ≤ (g 1 3)
    · rw [if_pos c180] at hE
      refine y_icT (tgt := 48) k20_16 (by decide) c180 ?_
      exact F20_48 K  _ _ _ hE
    · rw [if_neg c180] at hE
      refine y_icF 48 k20_16 (by decide) c180 ?_
      refine y_aload_n k20_19 rfl rfl ?_
      refine y_getR k20_20 fk_1_14 sh1 rfl ?_
      refine y_aload_n k20_23 rfl rfl ?_
      refine y_getI k20_24 fk_1_41 sh1 rfl ?_
      obtain ⟨r177, g176, hc178, hE⟩ := zbd_some hE
      refine y_invVi (j := 21) (As := [.int (g 1 3)]) (rest := []) (N := zm21) (F21 K 2 (g 1 3) rw2 _ r177 g176 hc178 (d + 1)) k20_27 lk_1_44 zm21_get na21 rfl (Nat.le_of_ble_eq_true rfl) sh2 (by decide) rfl ?_
      refine y_bipush (v := 32) k20_30 b8_32 ?_
      by_cases c179 : ¬ r177 = 32
      · rw [if_pos c179] at hE
        refine y_icT (tgt := 48) k20_32 (by decide) c179 ?_
        exact F20_48 K  _ _ _ hE
      · rw [if_neg c179] at hE
        refine y_icF 48 k20_32 (by decide) c179 ?_
        refine y_aload_n k20_35 rfl rfl ?_
        refine y_dup k20_36 rfl ?_
        refine y_getI k20_37 fk_1_41 sh1 rfl ?_
        refine y_iconst (v := 1) k20_40 oi_1 ?_
        refine y_iadd k20_41 ?_
        refine y_putI k20_42 fk_1_41 sh1 rfl pi_1_3.1 pi_1_3.2 ?_
        refine y_goto (tgt := 8) k20_45 (by decide) ?_
        exact ih  _ _ _ hE
theorem F20 {L : Nat} {xs : Nat → Int32} (K : Nat) (g : zS) (r : Unit) (g' : zS) (hE : f20 K  g = some (r, g')) (d : Nat) : zE2 L xs (d + 3) 20 [.ref 1] g none g' := by
  refine y_ev (n := 0) (d := d + 2) (ls := [some (.ref 1), none]) zm20_get (by decide) (Nat.le_of_ble_eq_true rfl) rfl ?_
  unfold f20 at hE
  refine y_aload_n k20_0 rfl rfl ?_
  refine y_aload_n k20_1 rfl rfl ?_
  refine y_getI k20_2 fk_1_28 sh1 rfl ?_
  refine y_putI k20_5 fk_1_41 sh1 rfl pi_1_3.1 pi_1_3.2 ?_
  exact F20_8 K K  _ _ _ hE
-- AdjectiveCoupons$Text.numberHere
def f38_82 (K : Nat) (x1 : Int32) (x3 : Int32) (g : zS) : Option (Int32 × zS) := if x1 < x3 then some ((-1), g) else (some (x3, g))
def f38 (K : Nat) (x1 : Int32) (g : zS) : Option (Int32 × zS) := if ((g 1 4) - (g 1 3)) < 1 then some ((-1), g) else if 2 < ((g 1 4) - (g 1 3)) then some ((-1), g) else (zbd (f21 K 2 (g 1 3) g) fun r138 g137 => zbd (f22 K r138 g137) fun r141 g140 => if r141 = 2 then zbd (f21 K 2 (g140 1 3) g140) fun r144 g143 => if ¬ ((g 1 4) - (g 1 3)) = 2 then f38_82 K x1 (r144 - 48) g143 else (zbd (f21 K 2 ((g143 1 3) + 1) g143) fun r147 g146 => f38_82 K x1 (((10 * (r144 - 48)) + r147) - 48) g146) else (some ((-1), g140)))
theorem F38_82 {L : Nat} {xs : Nat → Int32} {d : Nat} (K : Nat) (x1 : Int32) (x3 : Int32) (g : zS) (r : Int32) (g' : zS) (hE : f38_82 K x1 x3 g = some (r, g')) : zG2 L xs (d + 2) zm38 82 [none, some (.int x1), none, some (.int x3)] [] g (some (.int r)) g' := by
  unfold f38_82 at hE
  refine y_iload_n k38_82 rfl ?_
  refine y_iload_n k38_83 rfl ?_
  by_cases c136 : x1 < x3
  · rw [if_pos c136] at hE
    refine y_icT (tgt := 91) k38_84 (by decide) c136 ?_
    refine y_iconst (v := (-1)) k38_91 oi_m1 ?_
    obtain ⟨rfl, rfl⟩ := zpr hE
    exact y_iret k38_92 rfl
  · rw [if_neg c136] at hE
    refine y_icF 91 k38_84 (by decide) c136 ?_
    refine y_iload_n k38_87 rfl ?_
    refine y_goto (tgt := 92) k38_88 (by decide) ?_
    obtain ⟨rfl, rfl⟩ := zpr hE
    exact y_iret k38_92 rfl
theorem F38 {L : Nat} {xs : Nat → Int32} (K : Nat) (x1 : Int32) (g : zS) (r : Int32) (g' : zS) (hE : f38 K x1 g = some (r, g')) (d : Nat) : zE2 L xs (d + 3) 38 [.ref 1, .int x1] g (some (.int r)) g' := by
  refine y_ev (n := 0) (d := d + 2) (ls := [some (.ref 1), some (.int x1), none, none]) zm38_get (by decide) (Nat.le_of_ble_eq_true rfl) rfl ?_
  unfold f38 at hE
  refine y_aload_n k38_0 rfl rfl ?_
  refine y_getI k38_1 fk_1_28 sh1 rfl ?_
  refine y_aload_n k38_4 rfl rfl ?_
  refine y_getI k38_5 fk_1_41 sh1 rfl ?_
  refine y_isub k38_8 ?_
  refine y_istore_n (ls2 := [some (.ref 1), some (.int x1), some (.int ((g 1 4) - (g 1 3))), none]) k38_9 rfl (Nat.le_of_ble_eq_true rfl) rfl ?_
  refine y_iload_n k38_10 rfl ?_
  refine y_iconst (v := 1) k38_11 oi_1 ?_
  by_cases c152 : ((g 1 4) - (g 1 3)) < 1
  · rw [if_pos c152] at hE
    refine y_icT (tgt := 38) k38_12 (by decide) c152 ?_
    refine y_iconst (v := (-1)) k38_38 oi_m1 ?_
    obtain ⟨rfl, rfl⟩ := zpr hE
    exact y_iret k38_39 rfl
  · rw [if_neg c152] at hE
    refine y_icF 38 k38_12 (by decide) c152 ?_
    refine y_iload_n k38_15 rfl ?_
    refine y_iconst (v := 2) k38_16 oi_2 ?_
    by_cases c151 : 2 < ((g 1 4) - (g 1 3))
    · rw [if_pos c151] at hE
      refine y_icT (tgt := 38) k38_17 (by decide) c151 ?_
      refine y_iconst (v := (-1)) k38_38 oi_m1 ?_
      obtain ⟨rfl, rfl⟩ := zpr hE
      exact y_iret k38_39 rfl
    · rw [if_neg c151] at hE
      refine y_icF 38 k38_17 (by decide) c151 ?_
      refine y_aload_n k38_20 rfl rfl ?_
      refine y_getR k38_21 fk_1_14 sh1 rfl ?_
      refine y_aload_n k38_24 rfl rfl ?_
      refine y_getI k38_25 fk_1_41 sh1 rfl ?_
      obtain ⟨r138, g137, hc139, hE⟩ := zbd_some hE
      refine y_invVi (j := 21) (As := [.int (g 1 3)]) (rest := []) (N := zm21) (F21 K 2 (g 1 3) rw2 _ r138 g137 hc139 (d + 1)) k38_28 lk_1_44 zm21_get na21 rfl (Nat.le_of_ble_eq_true rfl) sh2 (by decide) rfl ?_
      obtain ⟨r141, g140, hc142, hE⟩ := zbd_some hE
      refine y_invSi (j := 22) (As := [.int r138]) (rest := []) (N := zm22) (F22 K r138 _ r141 g140 hc142 (d + 0)) k38_31 lk_1_91 zm22_get na22 rfl (Nat.le_of_ble_eq_true rfl) ?_
      refine y_iconst (v := 2) k38_34 oi_2 ?_
      by_cases c150 : r141 = 2
      · rw [if_pos c150] at hE
        refine y_icT (tgt := 40) k38_35 (by decide) c150 ?_
        refine y_aload_n k38_40 rfl rfl ?_
        refine y_getR k38_41 fk_1_14 sh1 rfl ?_
        refine y_aload_n k38_44 rfl rfl ?_
        refine y_getI k38_45 fk_1_41 sh1 rfl ?_
        obtain ⟨r144, g143, hc145, hE⟩ := zbd_some hE
        refine y_invVi (j := 21) (As := [.int (g140 1 3)]) (rest := []) (N := zm21) (F21 K 2 (g140 1 3) rw2 _ r144 g143 hc145 (d + 1)) k38_48 lk_1_44 zm21_get na21 rfl (Nat.le_of_ble_eq_true rfl) sh2 (by decide) rfl ?_
        refine y_bipush (v := 48) k38_51 b8_48 ?_
        refine y_isub k38_53 ?_
        refine y_istore_n (ls2 := [some (.ref 1), some (.int x1), some (.int ((g 1 4) - (g 1 3))), some (.int (r144 - 48))]) k38_54 rfl (Nat.le_of_ble_eq_true rfl) rfl ?_
        refine y_iload_n k38_55 rfl ?_
        refine y_iconst (v := 2) k38_56 oi_2 ?_
        by_cases c149 : ¬ ((g 1 4) - (g 1 3)) = 2
        · rw [if_pos c149] at hE
          refine y_icT (tgt := 82) k38_57 (by decide) c149 ?_
          exact y_weak (ls0 := [none, some (.int x1), none, some (.int (r144 - 48))]) ⟨rfl, rfl, rfl, rfl, trivial⟩ (F38_82 K x1 (r144 - 48) _ _ _ hE)
        · rw [if_neg c149] at hE
          refine y_icF 82 k38_57 (by decide) c149 ?_
          refine y_bipush (v := 10) k38_60 b8_10 ?_
          refine y_iload_n k38_62 rfl ?_
          refine y_imul k38_63 ?_
          refine y_aload_n k38_64 rfl rfl ?_
          refine y_getR k38_65 fk_1_14 sh1 rfl ?_
          refine y_aload_n k38_68 rfl rfl ?_
          refine y_getI k38_69 fk_1_41 sh1 rfl ?_
          refine y_iconst (v := 1) k38_72 oi_1 ?_
          refine y_iadd k38_73 ?_
          obtain ⟨r147, g146, hc148, hE⟩ := zbd_some hE
          refine y_invVi (j := 21) (As := [.int ((g143 1 3) + 1)]) (rest := [.int (10 * (r144 - 48))]) (N := zm21) (F21 K 2 ((g143 1 3) + 1) rw2 _ r147 g146 hc148 (d + 1)) k38_74 lk_1_44 zm21_get na21 rfl (Nat.le_of_ble_eq_true rfl) sh2 (by decide) rfl ?_
          refine y_iadd k38_77 ?_
          refine y_bipush (v := 48) k38_78 b8_48 ?_
          refine y_isub k38_80 ?_
          refine y_istore_n (ls2 := [some (.ref 1), some (.int x1), some (.int ((g 1 4) - (g 1 3))), some (.int (((10 * (r144 - 48)) + r147) - 48))]) k38_81 rfl (Nat.le_of_ble_eq_true rfl) rfl ?_
          exact y_weak (ls0 := [none, some (.int x1), none, some (.int (((10 * (r144 - 48)) + r147) - 48))]) ⟨rfl, rfl, rfl, rfl, trivial⟩ (F38_82 K x1 (((10 * (r144 - 48)) + r147) - 48) _ _ _ hE)
      · rw [if_neg c150] at hE
        refine y_icF 40 k38_35 (by decide) c150 ?_
        refine y_iconst (v := (-1)) k38_38 oi_m1 ?_
        obtain ⟨rfl, rfl⟩ := zpr hE
        exact y_iret k38_39 rfl
-- AdjectiveCoupons$State.timesSaidByAll
def f50_4 (K : Nat) : Nat → Nat → Int32 → Int32 → Int32 → zS → Option (Int32 × zS)
  | 0, _, _, _, _, _ => none
  | n + 1, o0, x1, x2, x3, g => if 4 ≤ x3 then some (x2, g) else (zbd (f51 K o0 x3 x1 g) fun r114 g113 => (f50_4 K n) o0 x1 (x2 + r114) (x3 + 1) g113)
def f50 (K : Nat) (o0 : Nat) (x1 : Int32) (g : zS) : Option (Int32 × zS) := f50_4 K K o0 x1 0 0 g
theorem F50_4 {L : Nat} {xs : Nat → Int32} {d : Nat} (K : Nat) : ∀ (n : Nat) (o0 : Nat) (x1 : Int32) (x2 : Int32) (x3 : Int32) (h0 : zState o0) (g : zS) (r : Int32) (g' : zS) (hE : f50_4 K n o0 x1 x2 x3 g = some (r, g')), zG2 L xs (d + 2) zm50 4 [some (.ref o0), some (.int x1), some (.int x2), some (.int x3)] [] g (some (.int r)) g' := by
  intro n
  induction n with
  | zero => intro o0 x1 x2 x3 h0 g r g' hE; cases hE
  | succ n ih =>
    intro o0 x1 x2 x3 h0 g r g' hE
    rw [f50_4] at hE
    refine y_iload_n k50_4 rfl ?_
    refine y_iconst (v := 4) k50_5 oi_4 ?_
    by_cases c116 : 4 ≤ x3
    · rw [if_pos c116] at hE
      refine y_icT (tgt := 24) k50_6 (by decide) c116 ?_
      refine y_iload_n k50_24 rfl ?_
      obtain ⟨rfl, rfl⟩ := zpr hE
      exact y_iret k50_25 rfl
    · rw [if_neg c116] at hE
      refine y_icF 24 k50_6 (by decide) c116 ?_
      refine y_iload_n k50_9 rfl ?_
      refine y_aload_n k50_10 rfl rfl ?_
      refine y_iload_n k50_11 rfl ?_
      refine y_iload_n k50_12 rfl ?_
      obtain ⟨r114, g113, hc115, hE⟩ := zbd_some hE
      refine y_invVi (j := 51) (As := [.int x3, .int x1]) (rest := [.int x2]) (N := zm51) (F51 K o0 x3 x1 h0 _ r114 g113 hc115 (d + 0)) k50_13 lk_4_65 zm51_get na51 rfl (Nat.le_of_ble_eq_true rfl) h0.1 (by decide) rfl ?_
      refine y_iadd k50_16 ?_
      refine y_istore_n (ls2 := [some (.ref o0), some (.int x1), some (.int (x2 + r114)), some (.int x3)]) k50_17 rfl (Nat.le_of_ble_eq_true rfl) rfl ?_
      refine y_iinc (v := (x3 + 1)) (ls2 := [some (.ref o0), some (.int x1), some (.int (x2 + r114)), some (.int (x3 + 1))]) k50_18 rfl rfl (by rw [oi_1]) rfl ?_
      refine y_goto (tgt := 4) k50_21 (by decide) ?_
      exact ih o0 x1 (x2 + r114) (x3 + 1) h0 _ _ _ hE
theorem F50 {L : Nat} {xs : Nat → Int32} (K : Nat) (o0 : Nat) (x1 : Int32) (h0 : zState o0) (g : zS) (r : Int32) (g' : zS) (hE : f50 K o0 x1 g = some (r, g')) (d : Nat) : zE2 L xs (d + 3) 50 [.ref o0, .int x1] g (some (.int r)) g' := by
  refine y_ev (n := 0) (d := d + 2) (ls := [some (.ref o0), some (.int x1), none, none]) zm50_get (by decide) (Nat.le_of_ble_eq_true rfl) rfl ?_
  unfold f50 at hE
  refine y_iconst (v := 0) k50_0 oi_0 ?_
  refine y_istore_n (ls2 := [some (.ref o0), some (.int x1), some (.int 0), none]) k50_1 rfl (Nat.le_of_ble_eq_true rfl) rfl ?_
  refine y_iconst (v := 0) k50_2 oi_0 ?_
  refine y_istore_n (ls2 := [some (.ref o0), some (.int x1), some (.int 0), some (.int 0)]) k50_3 rfl (Nat.le_of_ble_eq_true rfl) rfl ?_
  exact F50_4 K K o0 x1 0 0 h0 _ _ _ hE
-- AdjectiveCoupons$State.wordsSaid
def f55_4 (K : Nat) : Nat → Nat → Int32 → Int32 → Int32 → zS → Option (Int32 × zS)
  | 0, _, _, _, _, _ => none
  | n + 1, o0, x1, x2, x3, g => if 10 ≤ x3 then some (x2, g) else (zbd (f51 K o0 x1 x3 g) fun r114 g113 => (f55_4 K n) o0 x1 (x2 + r114) (x3 + 1) g113)
def f55 (K : Nat) (o0 : Nat) (x1 : Int32) (g : zS) : Option (Int32 × zS) := f55_4 K K o0 x1 0 0 g
theorem F55_4 {L : Nat} {xs : Nat → Int32} {d : Nat} (K : Nat) : ∀ (n : Nat) (o0 : Nat) (x1 : Int32) (x2 : Int32) (x3 : Int32) (h0 : zState o0) (g : zS) (r : Int32) (g' : zS) (hE : f55_4 K n o0 x1 x2 x3 g = some (r, g')), zG2 L xs (d + 2) zm55 4 [some (.ref o0), some (.int x1), some (.int x2), some (.int x3)] [] g (some (.int r)) g' := by
  intro n
  induction n with
  | zero => intro o0 x1 x2 x3 h0 g r g' hE; cases hE
  | succ n ih =>
    intro o0 x1 x2 x3 h0 g r g' hE
    rw [f55_4] at hE
    refine y_iload_n k55_4 rfl ?_
    refine y_bipush (v := 10) k55_5 b8_10 ?_
    by_cases c116 : 10 ≤ x3
    · rw [if_pos c116] at hE
      refine y_icT (tgt := 25) k55_7 (by decide) c116 ?_
      refine y_iload_n k55_25 rfl ?_
      obtain ⟨rfl, rfl⟩ := zpr hE
      exact y_iret k55_26 rfl
    · rw [if_neg c116] at hE
      refine y_icF 25 k55_7 (by decide) c116 ?_
      refine y_iload_n k55_10 rfl ?_
      refine y_aload_n k55_11 rfl rfl ?_
      refine y_iload_n k55_12 rfl ?_
      refine y_iload_n k55_13 rfl ?_
      obtain ⟨r114, g113, hc115, hE⟩ := zbd_some hE
      refine y_invVi (j := 51) (As := [.int x1, .int x3]) (rest := [.int x2]) (N := zm51) (F51 K o0 x1 x3 h0 _ r114 g113 hc115 (d + 0)) k55_14 lk_4_65 zm51_get na51 rfl (Nat.le_of_ble_eq_true rfl) h0.1 (by decide) rfl ?_
      refine y_iadd k55_17 ?_
      refine y_istore_n (ls2 := [some (.ref o0), some (.int x1), some (.int (x2 + r114)), some (.int x3)]) k55_18 rfl (Nat.le_of_ble_eq_true rfl) rfl ?_
      refine y_iinc (v := (x3 + 1)) (ls2 := [some (.ref o0), some (.int x1), some (.int (x2 + r114)), some (.int (x3 + 1))]) k55_19 rfl rfl (by rw [oi_1]) rfl ?_
      refine y_goto (tgt := 4) k55_22 (by decide) ?_
      exact ih o0 x1 (x2 + r114) (x3 + 1) h0 _ _ _ hE
theorem F55 {L : Nat} {xs : Nat → Int32} (K : Nat) (o0 : Nat) (x1 : Int32) (h0 : zState o0) (g : zS) (r : Int32) (g' : zS) (hE : f55 K o0 x1 g = some (r, g')) (d : Nat) : zE2 L xs (d + 3) 55 [.ref o0, .int x1] g (some (.int r)) g' := by
  refine y_ev (n := 0) (d := d + 2) (ls := [some (.ref o0), some (.int x1), none, none]) zm55_get (by decide) (Nat.le_of_ble_eq_true rfl) rfl ?_
  unfold f55 at hE
  refine y_iconst (v := 0) k55_0 oi_0 ?_
  refine y_istore_n (ls2 := [some (.ref o0), some (.int x1), some (.int 0), none]) k55_1 rfl (Nat.le_of_ble_eq_true rfl) rfl ?_
  refine y_iconst (v := 0) k55_2 oi_0 ?_
  refine y_istore_n (ls2 := [some (.ref o0), some (.int x1), some (.int 0), some (.int 0)]) k55_3 rfl (Nat.le_of_ble_eq_true rfl) rfl ?_
  exact F55_4 K K o0 x1 0 0 h0 _ _ _ hE
-- AdjectiveCoupons$Prices.lookUp
def f59_10 (K : Nat) : Nat → Nat → Int32 → Int32 → zS → Option (Unit × zS)
  | 0, _, _, _, _ => none
  | n + 1, o1, x2, x3, g => if (g o1 0) ≤ x3 then some ((), g) else (zbd (f49 K o1 x3 x2 g) fun r123 g122 => zbd (f14 K 184 x3 r123 g122) fun _ g125 => (f59_10 K n) o1 x2 (x3 + 1) g125)
def f59 (K : Nat) (o1 : Nat) (x2 : Int32) (g : zS) : Option (Unit × zS) := f59_10 K K o1 x2 0 (zup g 183 1 (g o1 4))
theorem F59_10 {L : Nat} {xs : Nat → Int32} {d : Nat} (K : Nat) : ∀ (n : Nat) (o1 : Nat) (x2 : Int32) (x3 : Int32) (h1 : zTold o1) (g : zS) (r : Unit) (g' : zS) (hE : f59_10 K n o1 x2 x3 g = some (r, g')), zG2 L xs (d + 2) zm59 10 [some (.ref 183), some (.ref o1), some (.int x2), some (.int x3)] [] g none g' := by
  intro n
  induction n with
  | zero => intro o1 x2 x3 h1 g r g' hE; cases hE
  | succ n ih =>
    intro o1 x2 x3 h1 g r g' hE
    rw [f59_10] at hE
    refine y_iload_n k59_10 rfl ?_
    refine y_aload_n k59_11 rfl rfl ?_
    refine y_getI k59_12 fk_7_27 h1.1 rfl ?_
    by_cases c128 : (g o1 0) ≤ x3
    · rw [if_pos c128] at hE
      refine y_icT (tgt := 38) k59_15 (by decide) c128 ?_
      obtain ⟨rfl, rfl⟩ := zpr hE
      exact y_vret k59_38 rfl
    · rw [if_neg c128] at hE
      refine y_icF 38 k59_15 (by decide) c128 ?_
      refine y_aload_n k59_18 rfl rfl ?_
      refine y_getR k59_19 fk_7_14 sh183 rfl ?_
      refine y_iload_n k59_22 rfl ?_
      refine y_aload_n k59_23 rfl rfl ?_
      refine y_iload_n k59_24 rfl ?_
      refine y_iload_n k59_25 rfl ?_
      obtain ⟨r123, g122, hc124, hE⟩ := zbd_some hE
      refine y_invVi (j := 49) (As := [.int x3, .int x2]) (rest := [.int x3, .ref 184]) (N := zm49) (F49 K o1 x3 x2 h1 _ r123 g122 hc124 (d + 0)) k59_26 lk_7_30 zm49_get na49 rfl (Nat.le_of_ble_eq_true rfl) h1.1 (by decide) rfl ?_
      obtain ⟨u126, g125, hc127, hE⟩ := zbd_some hE
      refine y_invVv (j := 14) (As := [.int x3, .int r123]) (rest := []) (N := zm14) (F14 K 184 x3 r123 rw184 _ u126 g125 hc127 (d + 1)) k59_29 lk_7_34 zm14_get na14 rfl (Nat.le_of_ble_eq_true rfl) sh184 (by decide) rfl ?_
      refine y_iinc (v := (x3 + 1)) (ls2 := [some (.ref 183), some (.ref o1), some (.int x2), some (.int (x3 + 1))]) k59_32 rfl rfl (by rw [oi_1]) rfl ?_
      refine y_goto (tgt := 10) k59_35 (by decide) ?_
      exact ih o1 x2 (x3 + 1) h1 _ _ _ hE
theorem F59 {L : Nat} {xs : Nat → Int32} (K : Nat) (o1 : Nat) (x2 : Int32) (h1 : zTold o1) (g : zS) (r : Unit) (g' : zS) (hE : f59 K o1 x2 g = some (r, g')) (d : Nat) : zE2 L xs (d + 3) 59 [.ref 183, .ref o1, .int x2] g none g' := by
  refine y_ev (n := 0) (d := d + 2) (ls := [some (.ref 183), some (.ref o1), some (.int x2), none]) zm59_get (by decide) (Nat.le_of_ble_eq_true rfl) rfl ?_
  unfold f59 at hE
  refine y_aload_n k59_0 rfl rfl ?_
  refine y_aload_n k59_1 rfl rfl ?_
  refine y_getI k59_2 fk_7_20 h1.1 rfl ?_
  refine y_putI k59_5 fk_7_26 sh183 rfl pi_7_1.1 pi_7_1.2 ?_
  refine y_iconst (v := 0) k59_8 oi_0 ?_
  refine y_istore_n (ls2 := [some (.ref 183), some (.ref o1), some (.int x2), some (.int 0)]) k59_9 rfl (Nat.le_of_ble_eq_true rfl) rfl ?_
  exact F59_10 K K o1 x2 0 h1 _ _ _ hE
-- AdjectiveCoupons$Prices.kindAt
def f61 (K : Nat) (o1 : Nat) (x2 : Int32) (g : zS) : Option (Int32 × zS) := zbd (f62 K o1 x2 g) fun r109 g108 => if ¬ r109 = (-1) then zbd (f21 K 184 r109 g108) fun r112 g111 => some (r112, g111) else (some ((-1), g108))
theorem F61 {L : Nat} {xs : Nat → Int32} (K : Nat) (o1 : Nat) (x2 : Int32) (h1 : zLine o1) (g : zS) (r : Int32) (g' : zS) (hE : f61 K o1 x2 g = some (r, g')) (d : Nat) : zE2 L xs (d + 3) 61 [.ref 183, .ref o1, .int x2] g (some (.int r)) g' := by
  refine y_ev (n := 0) (d := d + 2) (ls := [some (.ref 183), some (.ref o1), some (.int x2), none]) zm61_get (by decide) (Nat.le_of_ble_eq_true rfl) rfl ?_
  unfold f61 at hE
  refine y_aload_n k61_0 rfl rfl ?_
  refine y_iload_n k61_1 rfl ?_
  obtain ⟨r109, g108, hc110, hE⟩ := zbd_some hE
  refine y_invVi (j := 62) (As := [.int x2]) (rest := []) (N := zm62) (F62 K o1 x2 h1 _ r109 g108 hc110 (d + 0)) k61_2 lk_7_38 zm62_get na62 rfl (Nat.le_of_ble_eq_true rfl) h1.1 (by decide) rfl ?_
  refine y_istore_n (ls2 := [some (.ref 183), some (.ref o1), some (.int x2), some (.int r109)]) k61_5 rfl (Nat.le_of_ble_eq_true rfl) rfl ?_
  refine y_iload_n k61_6 rfl ?_
  refine y_iconst (v := (-1)) k61_7 oi_m1 ?_
  by_cases c114 : ¬ r109 = (-1)
  · rw [if_pos c114] at hE
    refine y_icT (tgt := 15) k61_8 (by decide) c114 ?_
    refine y_aload_n k61_15 rfl rfl ?_
    refine y_getR k61_16 fk_7_14 sh183 rfl ?_
    refine y_iload_n k61_19 rfl ?_
    obtain ⟨r112, g111, hc113, hE⟩ := zbd_some hE
    refine y_invVi (j := 21) (As := [.int r109]) (rest := []) (N := zm21) (F21 K 184 r109 rw184 _ r112 g111 hc113 (d + 1)) k61_20 lk_7_44 zm21_get na21 rfl (Nat.le_of_ble_eq_true rfl) sh184 (by decide) rfl ?_
    obtain ⟨rfl, rfl⟩ := zpr hE
    exact y_iret k61_23 rfl
  · rw [if_neg c114] at hE
    refine y_icF 15 k61_8 (by decide) c114 ?_
    refine y_iconst (v := (-1)) k61_11 oi_m1 ?_
    refine y_goto (tgt := 23) k61_12 (by decide) ?_
    obtain ⟨rfl, rfl⟩ := zpr hE
    exact y_iret k61_23 rfl
-- AdjectiveCoupons.put
def f68_16 (K : Nat) (x1 : Int32) (g : zS) : Option (Int32 × zS) := zbd (f69 K 180 x1 g) fun r124 g123 => if r124 = 0 then some ((-5), g123) else (some ((g123 180 1), g123))
def f68 (K : Nat) (x1 : Int32) (g : zS) : Option (Int32 × zS) := if x1 = (-1) then f68_16 K x1 g else (zbd (f48 K x1 g) fun r128 g127 => if ¬ r128 = 0 then f68_16 K x1 g127 else (some ((-2), g127)))
theorem F68_16 {L : Nat} {xs : Nat → Int32} {d : Nat} (K : Nat) (x1 : Int32) (g : zS) (r : Int32) (g' : zS) (hE : f68_16 K x1 g = some (r, g')) : zG2 L xs (d + 2) zm68 16 [some (.ref 0), some (.int x1)] [] g (some (.int r)) g' := by
  unfold f68_16 at hE
  refine y_aload_n k68_16 rfl rfl ?_
  refine y_getR k68_17 fk_0_43 sh0 rfl ?_
  refine y_iload_n k68_20 rfl ?_
  obtain ⟨r124, g123, hc125, hE⟩ := zbd_some hE
  refine y_invVi (j := 69) (As := [.int x1]) (rest := []) (N := zm69) (F69 K 180 x1 li180 _ r124 g123 hc125 (d + 0)) k68_21 lk_0_163 zm69_get na69 rfl (Nat.le_of_ble_eq_true rfl) sh180 (by decide) rfl ?_
  by_cases c126 : r124 = 0
  · rw [if_pos c126] at hE
    refine y_ifT (tgt := 37) k68_24 (by decide) c126 ?_
    refine y_bipush (v := (-5)) k68_37 b8_m5 ?_
    obtain ⟨rfl, rfl⟩ := zpr hE
    exact y_iret k68_39 rfl
  · rw [if_neg c126] at hE
    refine y_ifF 37 k68_24 (by decide) c126 ?_
    refine y_aload_n k68_27 rfl rfl ?_
    refine y_getR k68_28 fk_0_43 sh0 rfl ?_
    refine y_getI k68_31 fk_0_101 sh180 rfl ?_
    refine y_goto (tgt := 39) k68_34 (by decide) ?_
    obtain ⟨rfl, rfl⟩ := zpr hE
    exact y_iret k68_39 rfl
theorem F68 {L : Nat} {xs : Nat → Int32} (K : Nat) (x1 : Int32) (g : zS) (r : Int32) (g' : zS) (hE : f68 K x1 g = some (r, g')) (d : Nat) : zE2 L xs (d + 3) 68 [.ref 0, .int x1] g (some (.int r)) g' := by
  refine y_ev (n := 0) (d := d + 2) (ls := [some (.ref 0), some (.int x1)]) zm68_get (by decide) (Nat.le_of_ble_eq_true rfl) rfl ?_
  unfold f68 at hE
  refine y_iload_n k68_0 rfl ?_
  refine y_iconst (v := (-1)) k68_1 oi_m1 ?_
  by_cases c131 : x1 = (-1)
  · rw [if_pos c131] at hE
    refine y_icT (tgt := 16) k68_2 (by decide) c131 ?_
    exact F68_16 K x1 _ _ _ hE
  · rw [if_neg c131] at hE
    refine y_icF 16 k68_2 (by decide) c131 ?_
    refine y_aload_n k68_5 rfl rfl ?_
    refine y_iload_n k68_6 rfl ?_
    obtain ⟨r128, g127, hc129, hE⟩ := zbd_some hE
    refine y_invVi (j := 48) (As := [.int x1]) (rest := []) (N := zm48) (F48 K x1 _ r128 g127 hc129 (d + 0)) k68_7 lk_0_108 zm48_get na48 rfl (Nat.le_of_ble_eq_true rfl) sh0 (by decide) rfl ?_
    by_cases c130 : ¬ r128 = 0
    · rw [if_pos c130] at hE
      refine y_ifT (tgt := 16) k68_10 (by decide) c130 ?_
      exact F68_16 K x1 _ _ _ hE
    · rw [if_neg c130] at hE
      refine y_ifF 16 k68_10 (by decide) c130 ?_
      refine y_bipush (v := (-2)) k68_13 b8_m2 ?_
      obtain ⟨rfl, rfl⟩ := zpr hE
      exact y_iret k68_15 rfl
-- AdjectiveCoupons.line
def f71 (K : Nat) (x1 : Int32) (g : zS) : Option (Int32 × zS) := zbd (f12 K x1 0 ((g 180 1) - 1) g) fun r109 g108 => if r109 = 0 then some ((-3), g108) else (zbd (f62 K 180 x1 g108) fun r112 g111 => some (r112, g111))
theorem F71 {L : Nat} {xs : Nat → Int32} (K : Nat) (x1 : Int32) (g : zS) (r : Int32) (g' : zS) (hE : f71 K x1 g = some (r, g')) (d : Nat) : zE2 L xs (d + 3) 71 [.ref 0, .int x1] g (some (.int r)) g' := by
  refine y_ev (n := 0) (d := d + 2) (ls := [some (.ref 0), some (.int x1)]) zm71_get (by decide) (Nat.le_of_ble_eq_true rfl) rfl ?_
  unfold f71 at hE
  refine y_iload_n k71_0 rfl ?_
  refine y_iconst (v := 0) k71_1 oi_0 ?_
  refine y_aload_n k71_2 rfl rfl ?_
  refine y_getR k71_3 fk_0_43 sh0 rfl ?_
  refine y_getI k71_6 fk_0_101 sh180 rfl ?_
  refine y_iconst (v := 1) k71_9 oi_1 ?_
  refine y_isub k71_10 ?_
  obtain ⟨r109, g108, hc110, hE⟩ := zbd_some hE
  refine y_invSi (j := 12) (As := [.int x1, .int 0, .int ((g 180 1) - 1)]) (rest := []) (N := zm12) (F12 K x1 0 ((g 180 1) - 1) _ r109 g108 hc110 (d + 1)) k71_11 lk_0_68 zm12_get na12 rfl (Nat.le_of_ble_eq_true rfl) ?_
  by_cases c114 : r109 = 0
  · rw [if_pos c114] at hE
    refine y_ifT (tgt := 28) k71_14 (by decide) c114 ?_
    refine y_bipush (v := (-3)) k71_28 b8_m3 ?_
    obtain ⟨rfl, rfl⟩ := zpr hE
    exact y_iret k71_30 rfl
  · rw [if_neg c114] at hE
    refine y_ifF 28 k71_14 (by decide) c114 ?_
    refine y_aload_n k71_17 rfl rfl ?_
    refine y_getR k71_18 fk_0_43 sh0 rfl ?_
    refine y_iload_n k71_21 rfl ?_
    obtain ⟨r112, g111, hc113, hE⟩ := zbd_some hE
    refine y_invVi (j := 62) (As := [.int x1]) (rest := []) (N := zm62) (F62 K 180 x1 li180 _ r112 g111 hc113 (d + 0)) k71_22 lk_0_164 zm62_get na62 rfl (Nat.le_of_ble_eq_true rfl) sh180 (by decide) rfl ?_
    refine y_goto (tgt := 30) k71_25 (by decide) ?_
    obtain ⟨rfl, rfl⟩ := zpr hE
    exact y_iret k71_30 rfl
-- AdjectiveCoupons$Line.isSayable
def f76 (K : Nat) (o0 : Nat) (g : zS) : Option (Int32 × zS) := if (g o0 1) ≤ 0 then some (0, g) else (zbd (f77 K o0 g) fun r107 g106 => if ¬ r107 = 0 then some (0, g106) else (some (1, g106)))
theorem F76 {L : Nat} {xs : Nat → Int32} (K : Nat) (o0 : Nat) (h0 : zLine o0) (g : zS) (r : Int32) (g' : zS) (hE : f76 K o0 g = some (r, g')) (d : Nat) : zE2 L xs (d + 3) 76 [.ref o0] g (some (.int r)) g' := by
  refine y_ev (n := 0) (d := d + 2) (ls := [some (.ref o0)]) zm76_get (by decide) (Nat.le_of_ble_eq_true rfl) rfl ?_
  unfold f76 at hE
  refine y_aload_n k76_0 rfl rfl ?_
  refine y_getI k76_1 fk_6_20 h0.1 rfl ?_
  by_cases c110 : (g o0 1) ≤ 0
  · rw [if_pos c110] at hE
    refine y_ifT (tgt := 18) k76_4 (by decide) c110 ?_
    refine y_iconst (v := 0) k76_18 oi_0 ?_
    obtain ⟨rfl, rfl⟩ := zpr hE
    exact y_zret k76_19 rfl (by decide)
  · rw [if_neg c110] at hE
    refine y_ifF 18 k76_4 (by decide) c110 ?_
    refine y_aload_n k76_7 rfl rfl ?_
    obtain ⟨r107, g106, hc108, hE⟩ := zbd_some hE
    refine y_invVi (j := 77) (As := []) (rest := []) (N := zm77) (F77 K o0 h0 _ r107 g106 hc108 (d + 0)) k76_8 lk_6_36 zm77_get na77 rfl (Nat.le_of_ble_eq_true rfl) h0.1 (by decide) rfl ?_
    by_cases c109 : ¬ r107 = 0
    · rw [if_pos c109] at hE
      refine y_ifT (tgt := 18) k76_11 (by decide) c109 ?_
      refine y_iconst (v := 0) k76_18 oi_0 ?_
      obtain ⟨rfl, rfl⟩ := zpr hE
      exact y_zret k76_19 rfl (by decide)
    · rw [if_neg c109] at hE
      refine y_ifF 18 k76_11 (by decide) c109 ?_
      refine y_iconst (v := 1) k76_14 oi_1 ?_
      refine y_goto (tgt := 19) k76_15 (by decide) ?_
      obtain ⟨rfl, rfl⟩ := zpr hE
      exact y_zret k76_19 rfl (by decide)
-- AdjectiveCoupons$Past.remember
def f78_46 (K : Nat) (g : zS) : Option (Unit × zS) := some ((), (zup g 47 3 (if ((g 47 3) + 1) < (8 : Int32) then ((g 47 3) + 1) else (8 : Int32))))
def f78_22 (K : Nat) (o1 : Nat) (xs1 : Int32) (g : zS) : Option (Unit × zS) := zbd (f79 K 48 ((zup g 47 2 xs1) 47 2) (zup g 47 2 xs1)) fun z128 g127 => zcs z128 (f78_46 K  g127) (fun q131 => zbd (f80 K q131 o1 g127) fun _ g132 => f78_46 K  g132)
def f78 (K : Nat) (o1 : Nat) (g : zS) : Option (Unit × zS) := if 8 ≤ ((g 47 2) + 1) then f78_22 K o1 0 g else (f78_22 K o1 ((g 47 2) + 1) g)
theorem F78_46 {L : Nat} {xs : Nat → Int32} {d : Nat} (K : Nat) (g : zS) (r : Unit) (g' : zS) (hE : f78_46 K  g = some (r, g')) : zG2 L xs (d + 2) zm78 46 [some (.ref 47), none, none] [] g none g' := by
  unfold f78_46 at hE
  refine y_aload_n k78_46 rfl rfl ?_
  refine y_bipush (v := 8) k78_47 b8_8 ?_
  refine y_aload_n k78_49 rfl rfl ?_
  refine y_getI k78_50 fk_5_21 sh47 rfl ?_
  refine y_iconst (v := 1) k78_53 oi_1 ?_
  refine y_iadd k78_54 ?_
  refine y_min k78_55 lk_5_39 (Nat.le_of_ble_eq_true rfl) ?_
  refine y_putI k78_58 fk_5_21 sh47 rfl pi_5_3.1 pi_5_3.2 ?_
  obtain ⟨rfl, rfl⟩ := zpr hE
  exact y_vret k78_61 rfl
theorem F78_22 {L : Nat} {xs : Nat → Int32} {d : Nat} (K : Nat) (o1 : Nat) (xs1 : Int32) (h1 : zState o1) (g : zS) (r : Unit) (g' : zS) (hE : f78_22 K o1 xs1 g = some (r, g')) : zG2 L xs (d + 2) zm78 22 [some (.ref 47), some (.ref o1), none] [.int xs1, .ref 47] g none g' := by
  unfold f78_22 at hE
  refine y_putI k78_22 fk_5_28 sh47 rfl pi_5_2.1 pi_5_2.2 ?_
  refine y_aload_n k78_25 rfl rfl ?_
  refine y_getR k78_26 fk_5_11 sh47 rfl ?_
  refine y_aload_n k78_29 rfl rfl ?_
  refine y_getI k78_30 fk_5_28 sh47 rfl ?_
  obtain ⟨z128, g127, hc129, hE⟩ := zbd_some hE
  have hz130 := P79 sts48 hc129
  refine y_invSz (j := 79) (As := [.ref 48, .int ((zup g 47 2 xs1) 47 2)]) (rest := []) (N := zm79) (F79 K 48 ((zup g 47 2 xs1) 47 2) sts48 _ z128 g127 hc129 (d + 1)) k78_33 lk_5_31 zm79_get na79 rfl (Nat.le_of_ble_eq_true rfl) ?_
  refine y_astore_n (ls2 := [some (.ref 47), some (.ref o1), some (zov z128)]) k78_36 (zov_rv _) rfl (Nat.le_of_ble_eq_true rfl) rfl ?_
  refine y_aload_n k78_37 rfl (zov_rv _) ?_
  rcases z128 with _ | q131
  · rw [zcs_n] at hE
    refine y_nullT (tgt := 46) k78_38 (by decide) ?_
    exact y_weak (ls0 := [some (.ref 47), none, none]) ⟨rfl, rfl, rfl, trivial⟩ (F78_46 K  _ _ _ hE)
  · rw [zcs_s] at hE
    refine y_nullF k78_38 ?_
    refine y_aload_n k78_41 rfl rfl ?_
    refine y_aload_n k78_42 rfl rfl ?_
    obtain ⟨u133, g132, hc134, hE⟩ := zbd_some hE
    refine y_invVv (j := 80) (As := [.ref o1]) (rest := []) (N := zm80) (F80 K q131 o1 (hz130 q131 rfl) h1 _ u133 g132 hc134 (d + 0)) k78_43 lk_5_35 zm80_get na80 rfl (Nat.le_of_ble_eq_true rfl) (hz130 q131 rfl).1 (by decide) rfl ?_
    exact y_weak (ls0 := [some (.ref 47), none, none]) ⟨rfl, rfl, rfl, trivial⟩ (F78_46 K  _ _ _ hE)
theorem F78 {L : Nat} {xs : Nat → Int32} (K : Nat) (o1 : Nat) (h1 : zState o1) (g : zS) (r : Unit) (g' : zS) (hE : f78 K o1 g = some (r, g')) (d : Nat) : zE2 L xs (d + 3) 78 [.ref 47, .ref o1] g none g' := by
  refine y_ev (n := 0) (d := d + 2) (ls := [some (.ref 47), some (.ref o1), none]) zm78_get (by decide) (Nat.le_of_ble_eq_true rfl) rfl ?_
  unfold f78 at hE
  refine y_aload_n k78_0 rfl rfl ?_
  refine y_aload_n k78_1 rfl rfl ?_
  refine y_getI k78_2 fk_5_28 sh47 rfl ?_
  refine y_iconst (v := 1) k78_5 oi_1 ?_
  refine y_iadd k78_6 ?_
  refine y_bipush (v := 8) k78_7 b8_8 ?_
  by_cases c135 : 8 ≤ ((g 47 2) + 1)
  · rw [if_pos c135] at hE
    refine y_icT (tgt := 21) k78_9 (by decide) c135 ?_
    refine y_iconst (v := 0) k78_21 oi_0 ?_
    exact F78_22 K o1 0 h1 _ _ _ hE
  · rw [if_neg c135] at hE
    refine y_icF 21 k78_9 (by decide) c135 ?_
    refine y_aload_n k78_12 rfl rfl ?_
    refine y_getI k78_13 fk_5_28 sh47 rfl ?_
    refine y_iconst (v := 1) k78_16 oi_1 ?_
    refine y_iadd k78_17 ?_
    refine y_goto (tgt := 22) k78_18 (by decide) ?_
    exact F78_22 K o1 ((g 47 2) + 1) h1 _ _ _ hE
-- AdjectiveCoupons$Told.worthOf
def f83_39 (K : Nat) (k4 : Nat → Nat → Int32 → Int32 → zS → Option (Int32 × zS)) (o0 : Nat) (o1 : Nat) (x3 : Int32) (xs0 : Int32) (xs1 : Int32) (g : zS) : Option (Int32 × zS) := k4 o0 o1 (xs0 + xs1) (x3 + 1) g
def f83_4 (K : Nat) : Nat → Nat → Nat → Int32 → Int32 → zS → Option (Int32 × zS)
  | 0, _, _, _, _, _ => none
  | n + 1, o0, o1, x2, x3, g => if (g o1 1) ≤ x3 then some (x2, g) else (zbd (f62 K o1 x3 g) fun r126 g125 => if ¬ r126 = (-1) then zbd (f21 K (o0 + 3) r126 g125) fun r129 g128 => f83_39 K (f83_4 K n) o0 o1 x3 x2 r129 g128 else (f83_39 K (f83_4 K n) o0 o1 x3 x2 0 g125))
def f83 (K : Nat) (o0 : Nat) (o1 : Nat) (g : zS) : Option (Int32 × zS) := f83_4 K K o0 o1 0 0 g
theorem F83_39 {L : Nat} {xs : Nat → Int32} {d : Nat} (K : Nat) (k4 : Nat → Nat → Int32 → Int32 → zS → Option (Int32 × zS)) (hk4 : ∀ (o0 : Nat) (o1 : Nat) (x2 : Int32) (x3 : Int32) (h0 : zTold o0) (h1 : zLine o1) (g : zS) (r : Int32) (g' : zS), k4 o0 o1 x2 x3 g = some (r, g') → zG2 L xs (d + 2) zm83 4 [some (.ref o0), some (.ref o1), some (.int x2), some (.int x3), none] [] g (some (.int r)) g') (o0 : Nat) (o1 : Nat) (x3 : Int32) (xs0 : Int32) (xs1 : Int32) (h0 : zTold o0) (h1 : zLine o1) (g : zS) (r : Int32) (g' : zS) (hE : f83_39 K k4 o0 o1 x3 xs0 xs1 g = some (r, g')) : zG2 L xs (d + 2) zm83 39 [some (.ref o0), some (.ref o1), none, some (.int x3), none] [.int xs1, .int xs0] g (some (.int r)) g' := by
  unfold f83_39 at hE
  refine y_iadd k83_39 ?_
  refine y_istore_n (ls2 := [some (.ref o0), some (.ref o1), some (.int (xs0 + xs1)), some (.int x3), none]) k83_40 rfl (Nat.le_of_ble_eq_true rfl) rfl ?_
  refine y_iinc (v := (x3 + 1)) (ls2 := [some (.ref o0), some (.ref o1), some (.int (xs0 + xs1)), some (.int (x3 + 1)), none]) k83_41 rfl rfl (by rw [oi_1]) rfl ?_
  refine y_goto (tgt := 4) k83_44 (by decide) ?_
  exact hk4 o0 o1 (xs0 + xs1) (x3 + 1) h0 h1 _ _ _ hE
theorem F83_4 {L : Nat} {xs : Nat → Int32} {d : Nat} (K : Nat) : ∀ (n : Nat) (o0 : Nat) (o1 : Nat) (x2 : Int32) (x3 : Int32) (h0 : zTold o0) (h1 : zLine o1) (g : zS) (r : Int32) (g' : zS) (hE : f83_4 K n o0 o1 x2 x3 g = some (r, g')), zG2 L xs (d + 2) zm83 4 [some (.ref o0), some (.ref o1), some (.int x2), some (.int x3), none] [] g (some (.int r)) g' := by
  intro n
  induction n with
  | zero => intro o0 o1 x2 x3 h0 h1 g r g' hE; cases hE
  | succ n ih =>
    intro o0 o1 x2 x3 h0 h1 g r g' hE
    rw [f83_4] at hE
    refine y_iload_n k83_4 rfl ?_
    refine y_aload_n k83_5 rfl rfl ?_
    refine y_getI k83_6 fk_3_73 h1.1 rfl ?_
    by_cases c132 : (g o1 1) ≤ x3
    · rw [if_pos c132] at hE
      refine y_icT (tgt := 47) k83_9 (by decide) c132 ?_
      refine y_iload_n k83_47 rfl ?_
      obtain ⟨rfl, rfl⟩ := zpr hE
      exact y_iret k83_48 rfl
    · rw [if_neg c132] at hE
      refine y_icF 47 k83_9 (by decide) c132 ?_
      refine y_aload_n k83_12 rfl rfl ?_
      refine y_iload_n k83_13 rfl ?_
      obtain ⟨r126, g125, hc127, hE⟩ := zbd_some hE
      refine y_invVi (j := 62) (As := [.int x3]) (rest := []) (N := zm62) (F62 K o1 x3 h1 _ r126 g125 hc127 (d + 0)) k83_14 lk_3_78 zm62_get na62 rfl (Nat.le_of_ble_eq_true rfl) h1.1 (by decide) rfl ?_
      refine y_istore (ls2 := [some (.ref o0), some (.ref o1), some (.int x2), some (.int x3), some (.int r126)]) k83_17 rfl (Nat.le_of_ble_eq_true rfl) rfl ?_
      refine y_iload_n k83_19 rfl ?_
      refine y_iload k83_20 rfl ?_
      refine y_iconst (v := (-1)) k83_22 oi_m1 ?_
      by_cases c131 : ¬ r126 = (-1)
      · rw [if_pos c131] at hE
        refine y_icT (tgt := 30) k83_23 (by decide) c131 ?_
        refine y_aload_n k83_30 rfl rfl ?_
        refine y_getR k83_31 fk_3_24 h0.1 rfl ?_
        refine y_iload k83_34 rfl ?_
        obtain ⟨r129, g128, hc130, hE⟩ := zbd_some hE
        refine y_invVi (j := 21) (As := [.int r126]) (rest := [.int x2]) (N := zm21) (F21 K (o0 + 3) r126 h0.2.2.1 _ r129 g128 hc130 (d + 1)) k83_36 lk_3_69 zm21_get na21 rfl (Nat.le_of_ble_eq_true rfl) h0.2.2.1.1 (by decide) rfl ?_
        exact y_weak (ls0 := [some (.ref o0), some (.ref o1), none, some (.int x3), none]) ⟨rfl, rfl, rfl, rfl, rfl, trivial⟩ (F83_39 K (f83_4 K n) ih o0 o1 x3 x2 r129 h0 h1 _ _ _ hE)
      · rw [if_neg c131] at hE
        refine y_icF 30 k83_23 (by decide) c131 ?_
        refine y_iconst (v := 0) k83_26 oi_0 ?_
        refine y_goto (tgt := 39) k83_27 (by decide) ?_
        exact y_weak (ls0 := [some (.ref o0), some (.ref o1), none, some (.int x3), none]) ⟨rfl, rfl, rfl, rfl, rfl, trivial⟩ (F83_39 K (f83_4 K n) ih o0 o1 x3 x2 0 h0 h1 _ _ _ hE)
theorem F83 {L : Nat} {xs : Nat → Int32} (K : Nat) (o0 : Nat) (o1 : Nat) (h0 : zTold o0) (h1 : zLine o1) (g : zS) (r : Int32) (g' : zS) (hE : f83 K o0 o1 g = some (r, g')) (d : Nat) : zE2 L xs (d + 3) 83 [.ref o0, .ref o1] g (some (.int r)) g' := by
  refine y_ev (n := 0) (d := d + 2) (ls := [some (.ref o0), some (.ref o1), none, none, none]) zm83_get (by decide) (Nat.le_of_ble_eq_true rfl) rfl ?_
  unfold f83 at hE
  refine y_iconst (v := 0) k83_0 oi_0 ?_
  refine y_istore_n (ls2 := [some (.ref o0), some (.ref o1), some (.int 0), none, none]) k83_1 rfl (Nat.le_of_ble_eq_true rfl) rfl ?_
  refine y_iconst (v := 0) k83_2 oi_0 ?_
  refine y_istore_n (ls2 := [some (.ref o0), some (.ref o1), some (.int 0), some (.int 0), none]) k83_3 rfl (Nat.le_of_ble_eq_true rfl) rfl ?_
  exact F83_4 K K o0 o1 0 0 h0 h1 _ _ _ hE
-- AdjectiveCoupons$State.noteSaid
def f84_2 (K : Nat) : Nat → Nat → Int32 → Nat → Int32 → zS → Option (Unit × zS)
  | 0, _, _, _, _, _ => none
  | n + 1, o0, x1, o2, x3, g => if (g o2 1) ≤ x3 then some ((), g) else (zbd (f62 K o2 x3 g) fun r123 g122 => zbd (f82 K (o0 + 9) ((x1 * 10) + r123) 1 g122) fun _ g125 => (f84_2 K n) o0 x1 o2 (x3 + 1) g125)
def f84 (K : Nat) (o0 : Nat) (x1 : Int32) (o2 : Nat) (g : zS) : Option (Unit × zS) := f84_2 K K o0 x1 o2 0 g
theorem F84_2 {L : Nat} {xs : Nat → Int32} {d : Nat} (K : Nat) : ∀ (n : Nat) (o0 : Nat) (x1 : Int32) (o2 : Nat) (x3 : Int32) (h0 : zState o0) (h2 : zLine o2) (g : zS) (r : Unit) (g' : zS) (hE : f84_2 K n o0 x1 o2 x3 g = some (r, g')), zG2 L xs (d + 2) zm84 2 [some (.ref o0), some (.int x1), some (.ref o2), some (.int x3)] [] g none g' := by
  intro n
  induction n with
  | zero => intro o0 x1 o2 x3 h0 h2 g r g' hE; cases hE
  | succ n ih =>
    intro o0 x1 o2 x3 h0 h2 g r g' hE
    rw [f84_2] at hE
    refine y_iload_n k84_2 rfl ?_
    refine y_aload_n k84_3 rfl rfl ?_
    refine y_getI k84_4 fk_4_50 h2.1 rfl ?_
    by_cases c128 : (g o2 1) ≤ x3
    · rw [if_pos c128] at hE
      refine y_icT (tgt := 34) k84_7 (by decide) c128 ?_
      obtain ⟨rfl, rfl⟩ := zpr hE
      exact y_vret k84_34 rfl
    · rw [if_neg c128] at hE
      refine y_icF 34 k84_7 (by decide) c128 ?_
      refine y_aload_n k84_10 rfl rfl ?_
      refine y_getR k84_11 fk_4_29 h0.1 rfl ?_
      refine y_iload_n k84_14 rfl ?_
      refine y_bipush (v := 10) k84_15 b8_10 ?_
      refine y_imul k84_17 ?_
      refine y_aload_n k84_18 rfl rfl ?_
      refine y_iload_n k84_19 rfl ?_
      obtain ⟨r123, g122, hc124, hE⟩ := zbd_some hE
      refine y_invVi (j := 62) (As := [.int x3]) (rest := [.int (x1 * 10), .ref (o0 + 9)]) (N := zm62) (F62 K o2 x3 h2 _ r123 g122 hc124 (d + 0)) k84_20 lk_4_55 zm62_get na62 rfl (Nat.le_of_ble_eq_true rfl) h2.1 (by decide) rfl ?_
      refine y_iadd k84_23 ?_
      refine y_iconst (v := 1) k84_24 oi_1 ?_
      obtain ⟨u126, g125, hc127, hE⟩ := zbd_some hE
      refine y_invVv (j := 82) (As := [.int ((x1 * 10) + r123), .int 1]) (rest := []) (N := zm82) (F82 K (o0 + 9) ((x1 * 10) + r123) 1 h0.2.2.2.2.2.1 _ u126 g125 hc127 (d + 0)) k84_25 lk_4_59 zm82_get na82 rfl (Nat.le_of_ble_eq_true rfl) h0.2.2.2.2.2.1.1 (by decide) rfl ?_
      refine y_iinc (v := (x3 + 1)) (ls2 := [some (.ref o0), some (.int x1), some (.ref o2), some (.int (x3 + 1))]) k84_28 rfl rfl (by rw [oi_1]) rfl ?_
      refine y_goto (tgt := 2) k84_31 (by decide) ?_
      exact ih o0 x1 o2 (x3 + 1) h0 h2 _ _ _ hE
theorem F84 {L : Nat} {xs : Nat → Int32} (K : Nat) (o0 : Nat) (x1 : Int32) (o2 : Nat) (h0 : zState o0) (h2 : zLine o2) (g : zS) (r : Unit) (g' : zS) (hE : f84 K o0 x1 o2 g = some (r, g')) (d : Nat) : zE2 L xs (d + 3) 84 [.ref o0, .int x1, .ref o2] g none g' := by
  refine y_ev (n := 0) (d := d + 2) (ls := [some (.ref o0), some (.int x1), some (.ref o2), none]) zm84_get (by decide) (Nat.le_of_ble_eq_true rfl) rfl ?_
  unfold f84 at hE
  refine y_iconst (v := 0) k84_0 oi_0 ?_
  refine y_istore_n (ls2 := [some (.ref o0), some (.int x1), some (.ref o2), some (.int 0)]) k84_1 rfl (Nat.le_of_ble_eq_true rfl) rfl ?_
  exact F84_2 K K o0 x1 o2 0 h0 h2 _ _ _ hE
-- AdjectiveCoupons.areTwo
def f88 (K : Nat) (x1 : Int32) (x2 : Int32) (g : zS) : Option (Int32 × zS) := zbd (f53 K x1 g) fun r111 g110 => if r111 = 0 then some (0, g110) else (zbd (f53 K x2 g110) fun r114 g113 => if r114 = 0 then some (0, g113) else if x1 = x2 then some (0, g113) else (some (1, g113)))
theorem F88 {L : Nat} {xs : Nat → Int32} (K : Nat) (x1 : Int32) (x2 : Int32) (g : zS) (r : Int32) (g' : zS) (hE : f88 K x1 x2 g = some (r, g')) (d : Nat) : zE2 L xs (d + 3) 88 [.ref 0, .int x1, .int x2] g (some (.int r)) g' := by
  refine y_ev (n := 0) (d := d + 2) (ls := [some (.ref 0), some (.int x1), some (.int x2)]) zm88_get (by decide) (Nat.le_of_ble_eq_true rfl) rfl ?_
  unfold f88 at hE
  refine y_aload_n k88_0 rfl rfl ?_
  refine y_iload_n k88_1 rfl ?_
  obtain ⟨r111, g110, hc112, hE⟩ := zbd_some hE
  refine y_invVi (j := 53) (As := [.int x1]) (rest := []) (N := zm53) (F53 K x1 _ r111 g110 hc112 (d + 0)) k88_2 lk_0_134 zm53_get na53 rfl (Nat.le_of_ble_eq_true rfl) sh0 (by decide) rfl ?_
  by_cases c118 : r111 = 0
  · rw [if_pos c118] at hE
    refine y_ifT (tgt := 25) k88_5 (by decide) c118 ?_
    refine y_iconst (v := 0) k88_25 oi_0 ?_
    obtain ⟨rfl, rfl⟩ := zpr hE
    exact y_zret k88_26 rfl (by decide)
  · rw [if_neg c118] at hE
    refine y_ifF 25 k88_5 (by decide) c118 ?_
    refine y_aload_n k88_8 rfl rfl ?_
    refine y_iload_n k88_9 rfl ?_
    obtain ⟨r114, g113, hc115, hE⟩ := zbd_some hE
    refine y_invVi (j := 53) (As := [.int x2]) (rest := []) (N := zm53) (F53 K x2 _ r114 g113 hc115 (d + 0)) k88_10 lk_0_134 zm53_get na53 rfl (Nat.le_of_ble_eq_true rfl) sh0 (by decide) rfl ?_
    by_cases c117 : r114 = 0
    · rw [if_pos c117] at hE
      refine y_ifT (tgt := 25) k88_13 (by decide) c117 ?_
      refine y_iconst (v := 0) k88_25 oi_0 ?_
      obtain ⟨rfl, rfl⟩ := zpr hE
      exact y_zret k88_26 rfl (by decide)
    · rw [if_neg c117] at hE
      refine y_ifF 25 k88_13 (by decide) c117 ?_
      refine y_iload_n k88_16 rfl ?_
      refine y_iload_n k88_17 rfl ?_
      by_cases c116 : x1 = x2
      · rw [if_pos c116] at hE
        refine y_icT (tgt := 25) k88_18 (by decide) c116 ?_
        refine y_iconst (v := 0) k88_25 oi_0 ?_
        obtain ⟨rfl, rfl⟩ := zpr hE
        exact y_zret k88_26 rfl (by decide)
      · rw [if_neg c116] at hE
        refine y_icF 25 k88_18 (by decide) c116 ?_
        refine y_iconst (v := 1) k88_21 oi_1 ?_
        refine y_goto (tgt := 26) k88_22 (by decide) ?_
        obtain ⟨rfl, rfl⟩ := zpr hE
        exact y_zret k88_26 rfl (by decide)
-- AdjectiveCoupons$Past.recall
def f94 (K : Nat) (o1 : Nat) (g : zS) : Option (Int32 × zS) := zbd (f79 K 48 (g 47 2) g) fun z112 g111 => if (g111 47 3) = 0 then some (0, g111) else (zcs z112 (some (0, g111)) (fun q115 => zbd (f80 K o1 q115 g111) fun _ g116 => if (g116 47 2) ≤ 0 then some (1, (zup (zup g116 47 2 7) 47 3 (((zup g116 47 2 7) 47 3) - 1))) else (some (1, (zup (zup g116 47 2 ((g116 47 2) - 1)) 47 3 (((zup g116 47 2 ((g116 47 2) - 1)) 47 3) - 1))))))
theorem F94 {L : Nat} {xs : Nat → Int32} (K : Nat) (o1 : Nat) (h1 : zState o1) (g : zS) (r : Int32) (g' : zS) (hE : f94 K o1 g = some (r, g')) (d : Nat) : zE2 L xs (d + 3) 94 [.ref 47, .ref o1] g (some (.int r)) g' := by
  refine y_ev (n := 0) (d := d + 2) (ls := [some (.ref 47), some (.ref o1), none]) zm94_get (by decide) (Nat.le_of_ble_eq_true rfl) rfl ?_
  unfold f94 at hE
  refine y_aload_n k94_0 rfl rfl ?_
  refine y_getR k94_1 fk_5_11 sh47 rfl ?_
  refine y_aload_n k94_4 rfl rfl ?_
  refine y_getI k94_5 fk_5_28 sh47 rfl ?_
  obtain ⟨z112, g111, hc113, hE⟩ := zbd_some hE
  have hz114 := P79 sts48 hc113
  refine y_invSz (j := 79) (As := [.ref 48, .int (g 47 2)]) (rest := []) (N := zm79) (F79 K 48 (g 47 2) sts48 _ z112 g111 hc113 (d + 1)) k94_8 lk_5_31 zm79_get na79 rfl (Nat.le_of_ble_eq_true rfl) ?_
  refine y_astore_n (ls2 := [some (.ref 47), some (.ref o1), some (zov z112)]) k94_11 (zov_rv _) rfl (Nat.le_of_ble_eq_true rfl) rfl ?_
  refine y_aload_n k94_12 rfl rfl ?_
  refine y_getI k94_13 fk_5_21 sh47 rfl ?_
  by_cases c120 : (g111 47 3) = 0
  · rw [if_pos c120] at hE
    refine y_ifT (tgt := 23) k94_16 (by decide) c120 ?_
    refine y_iconst (v := 0) k94_23 oi_0 ?_
    obtain ⟨rfl, rfl⟩ := zpr hE
    exact y_zret k94_24 rfl (by decide)
  · rw [if_neg c120] at hE
    refine y_ifF 23 k94_16 (by decide) c120 ?_
    refine y_aload_n k94_19 rfl (zov_rv _) ?_
    rcases z112 with _ | q115
    · rw [zcs_n] at hE
      refine y_nonnullF k94_20 ?_
      refine y_iconst (v := 0) k94_23 oi_0 ?_
      obtain ⟨rfl, rfl⟩ := zpr hE
      exact y_zret k94_24 rfl (by decide)
    · rw [zcs_s] at hE
      refine y_nonnullT (tgt := 25) k94_20 (by decide) ?_
      refine y_aload_n k94_25 rfl rfl ?_
      refine y_aload_n k94_26 rfl rfl ?_
      obtain ⟨u117, g116, hc118, hE⟩ := zbd_some hE
      refine y_invVv (j := 80) (As := [.ref q115]) (rest := []) (N := zm80) (F80 K o1 q115 h1 (hz114 q115 rfl) _ u117 g116 hc118 (d + 0)) k94_27 lk_5_35 zm80_get na80 rfl (Nat.le_of_ble_eq_true rfl) h1.1 (by decide) rfl ?_
      refine y_aload_n k94_30 rfl rfl ?_
      refine y_aload_n k94_31 rfl rfl ?_
      refine y_getI k94_32 fk_5_28 sh47 rfl ?_
      by_cases c119 : (g116 47 2) ≤ 0
      · rw [if_pos c119] at hE
        refine y_ifT (tgt := 47) k94_35 (by decide) c119 ?_
        refine y_bipush (v := 7) k94_47 b8_7 ?_
        refine y_putI k94_49 fk_5_28 sh47 rfl pi_5_2.1 pi_5_2.2 ?_
        refine y_aload_n k94_52 rfl rfl ?_
        refine y_dup k94_53 rfl ?_
        refine y_getI k94_54 fk_5_21 sh47 rfl ?_
        refine y_iconst (v := 1) k94_57 oi_1 ?_
        refine y_isub k94_58 ?_
        refine y_putI k94_59 fk_5_21 sh47 rfl pi_5_3.1 pi_5_3.2 ?_
        refine y_iconst (v := 1) k94_62 oi_1 ?_
        obtain ⟨rfl, rfl⟩ := zpr hE
        exact y_zret k94_63 rfl (by decide)
      · rw [if_neg c119] at hE
        refine y_ifF 47 k94_35 (by decide) c119 ?_
        refine y_aload_n k94_38 rfl rfl ?_
        refine y_getI k94_39 fk_5_28 sh47 rfl ?_
        refine y_iconst (v := 1) k94_42 oi_1 ?_
        refine y_isub k94_43 ?_
        refine y_goto (tgt := 49) k94_44 (by decide) ?_
        refine y_putI k94_49 fk_5_28 sh47 rfl pi_5_2.1 pi_5_2.2 ?_
        refine y_aload_n k94_52 rfl rfl ?_
        refine y_dup k94_53 rfl ?_
        refine y_getI k94_54 fk_5_21 sh47 rfl ?_
        refine y_iconst (v := 1) k94_57 oi_1 ?_
        refine y_isub k94_58 ?_
        refine y_putI k94_59 fk_5_21 sh47 rfl pi_5_3.1 pi_5_3.2 ?_
        refine y_iconst (v := 1) k94_62 oi_1 ?_
        obtain ⟨rfl, rfl⟩ := zpr hE
        exact y_zret k94_63 rfl (by decide)
-- AdjectiveCoupons$Past.store
def f96 (K : Nat) (x1 : Int32) (o2 : Nat) (g : zS) : Option (Unit × zS) := zbd (f79 K 49 x1 g) fun z110 g109 => zcs z110 (some ((), g109)) (fun q113 => zbd (f80 K q113 o2 g109) fun _ g114 => some ((), (zup g114 47 4 ((g114 47 4) ||| (1 <<< (x1 &&& 31))))))
theorem F96 {L : Nat} {xs : Nat → Int32} (K : Nat) (x1 : Int32) (o2 : Nat) (h2 : zState o2) (g : zS) (r : Unit) (g' : zS) (hE : f96 K x1 o2 g = some (r, g')) (d : Nat) : zE2 L xs (d + 3) 96 [.ref 47, .int x1, .ref o2] g none g' := by
  refine y_ev (n := 0) (d := d + 2) (ls := [some (.ref 47), some (.int x1), some (.ref o2), none]) zm96_get (by decide) (Nat.le_of_ble_eq_true rfl) rfl ?_
  unfold f96 at hE
  refine y_aload_n k96_0 rfl rfl ?_
  refine y_getR k96_1 fk_5_17 sh47 rfl ?_
  refine y_iload_n k96_4 rfl ?_
  obtain ⟨z110, g109, hc111, hE⟩ := zbd_some hE
  have hz112 := P79 sts49 hc111
  refine y_invSz (j := 79) (As := [.ref 49, .int x1]) (rest := []) (N := zm79) (F79 K 49 x1 sts49 _ z110 g109 hc111 (d + 1)) k96_5 lk_5_31 zm79_get na79 rfl (Nat.le_of_ble_eq_true rfl) ?_
  refine y_astore_n (ls2 := [some (.ref 47), some (.int x1), some (.ref o2), some (zov z110)]) k96_8 (zov_rv _) rfl (Nat.le_of_ble_eq_true rfl) rfl ?_
  refine y_aload_n k96_9 rfl (zov_rv _) ?_
  rcases z110 with _ | q113
  · rw [zcs_n] at hE
    refine y_nullT (tgt := 30) k96_10 (by decide) ?_
    obtain ⟨rfl, rfl⟩ := zpr hE
    exact y_vret k96_30 rfl
  · rw [zcs_s] at hE
    refine y_nullF k96_10 ?_
    refine y_aload_n k96_13 rfl rfl ?_
    refine y_aload_n k96_14 rfl rfl ?_
    obtain ⟨u115, g114, hc116, hE⟩ := zbd_some hE
    refine y_invVv (j := 80) (As := [.ref o2]) (rest := []) (N := zm80) (F80 K q113 o2 (hz112 q113 rfl) h2 _ u115 g114 hc116 (d + 0)) k96_15 lk_5_35 zm80_get na80 rfl (Nat.le_of_ble_eq_true rfl) (hz112 q113 rfl).1 (by decide) rfl ?_
    refine y_aload_n k96_18 rfl rfl ?_
    refine y_dup k96_19 rfl ?_
    refine y_getI k96_20 fk_5_25 sh47 rfl ?_
    refine y_iconst (v := 1) k96_23 oi_1 ?_
    refine y_iload_n k96_24 rfl ?_
    refine y_ishl k96_25 ?_
    refine y_ior k96_26 ?_
    refine y_putI k96_27 fk_5_25 sh47 rfl pi_5_4.1 pi_5_4.2 ?_
    obtain ⟨rfl, rfl⟩ := zpr hE
    exact y_vret k96_30 rfl
-- AdjectiveCoupons$Past.fetch
def f98 (K : Nat) (x1 : Int32) (o2 : Nat) (g : zS) : Option (Int32 × zS) := zbd (f79 K 49 x1 g) fun z114 g113 => zcs z114 (some (0, g113)) (fun q117 => zbd (f64 K (g113 47 4) x1 g113) fun r119 g118 => if ¬ r119 = 0 then zbd (f80 K o2 q117 g118) fun _ g121 => some (1, (zup g121 47 3 0)) else (some (0, g118)))
theorem F98 {L : Nat} {xs : Nat → Int32} (K : Nat) (x1 : Int32) (o2 : Nat) (h2 : zState o2) (g : zS) (r : Int32) (g' : zS) (hE : f98 K x1 o2 g = some (r, g')) (d : Nat) : zE2 L xs (d + 3) 98 [.ref 47, .int x1, .ref o2] g (some (.int r)) g' := by
  refine y_ev (n := 0) (d := d + 2) (ls := [some (.ref 47), some (.int x1), some (.ref o2), none]) zm98_get (by decide) (Nat.le_of_ble_eq_true rfl) rfl ?_
  unfold f98 at hE
  refine y_aload_n k98_0 rfl rfl ?_
  refine y_getR k98_1 fk_5_17 sh47 rfl ?_
  refine y_iload_n k98_4 rfl ?_
  obtain ⟨z114, g113, hc115, hE⟩ := zbd_some hE
  have hz116 := P79 sts49 hc115
  refine y_invSz (j := 79) (As := [.ref 49, .int x1]) (rest := []) (N := zm79) (F79 K 49 x1 sts49 _ z114 g113 hc115 (d + 1)) k98_5 lk_5_31 zm79_get na79 rfl (Nat.le_of_ble_eq_true rfl) ?_
  refine y_astore_n (ls2 := [some (.ref 47), some (.int x1), some (.ref o2), some (zov z114)]) k98_8 (zov_rv _) rfl (Nat.le_of_ble_eq_true rfl) rfl ?_
  refine y_aload_n k98_9 rfl (zov_rv _) ?_
  rcases z114 with _ | q117
  · rw [zcs_n] at hE
    refine y_nullT (tgt := 24) k98_10 (by decide) ?_
    refine y_iconst (v := 0) k98_24 oi_0 ?_
    obtain ⟨rfl, rfl⟩ := zpr hE
    exact y_zret k98_25 rfl (by decide)
  · rw [zcs_s] at hE
    refine y_nullF k98_10 ?_
    refine y_aload_n k98_13 rfl rfl ?_
    refine y_getI k98_14 fk_5_25 sh47 rfl ?_
    refine y_iload_n k98_17 rfl ?_
    obtain ⟨r119, g118, hc120, hE⟩ := zbd_some hE
    refine y_invSi (j := 64) (As := [.int (g113 47 4), .int x1]) (rest := []) (N := zm64) (F64 K (g113 47 4) x1 _ r119 g118 hc120 (d + 1)) k98_18 lk_5_45 zm64_get na64 rfl (Nat.le_of_ble_eq_true rfl) ?_
    by_cases c124 : ¬ r119 = 0
    · rw [if_pos c124] at hE
      refine y_ifT (tgt := 26) k98_21 (by decide) c124 ?_
      refine y_aload_n k98_26 rfl rfl ?_
      refine y_aload_n k98_27 rfl rfl ?_
      obtain ⟨u122, g121, hc123, hE⟩ := zbd_some hE
      refine y_invVv (j := 80) (As := [.ref q117]) (rest := []) (N := zm80) (F80 K o2 q117 h2 (hz116 q117 rfl) _ u122 g121 hc123 (d + 0)) k98_28 lk_5_35 zm80_get na80 rfl (Nat.le_of_ble_eq_true rfl) h2.1 (by decide) rfl ?_
      refine y_aload_n k98_31 rfl rfl ?_
      refine y_iconst (v := 0) k98_32 oi_0 ?_
      refine y_putI k98_33 fk_5_21 sh47 rfl pi_5_3.1 pi_5_3.2 ?_
      refine y_iconst (v := 1) k98_36 oi_1 ?_
      obtain ⟨rfl, rfl⟩ := zpr hE
      exact y_zret k98_37 rfl (by decide)
    · rw [if_neg c124] at hE
      refine y_ifF 26 k98_21 (by decide) c124 ?_
      refine y_iconst (v := 0) k98_24 oi_0 ?_
      obtain ⟨rfl, rfl⟩ := zpr hE
      exact y_zret k98_25 rfl (by decide)
-- AdjectiveCoupons.canBeOrdered
def f100 (K : Nat) (g : zS) : Option (Int32 × zS) := zbd (f77 K 180 g) fun r107 g106 => if ¬ r107 = 0 then some (0, g106) else if 6 < (g106 180 1) then some (0, g106) else (some (1, g106))
theorem F100 {L : Nat} {xs : Nat → Int32} (K : Nat) (g : zS) (r : Int32) (g' : zS) (hE : f100 K  g = some (r, g')) (d : Nat) : zE2 L xs (d + 3) 100 [.ref 0] g (some (.int r)) g' := by
  refine y_ev (n := 0) (d := d + 2) (ls := [some (.ref 0)]) zm100_get (by decide) (Nat.le_of_ble_eq_true rfl) rfl ?_
  unfold f100 at hE
  refine y_aload_n k100_0 rfl rfl ?_
  refine y_getR k100_1 fk_0_43 sh0 rfl ?_
  obtain ⟨r107, g106, hc108, hE⟩ := zbd_some hE
  refine y_invVi (j := 77) (As := []) (rest := []) (N := zm77) (F77 K 180 li180 _ r107 g106 hc108 (d + 0)) k100_4 lk_0_246 zm77_get na77 rfl (Nat.le_of_ble_eq_true rfl) sh180 (by decide) rfl ?_
  by_cases c110 : ¬ r107 = 0
  · rw [if_pos c110] at hE
    refine y_ifT (tgt := 26) k100_7 (by decide) c110 ?_
    refine y_iconst (v := 0) k100_26 oi_0 ?_
    obtain ⟨rfl, rfl⟩ := zpr hE
    exact y_zret k100_27 rfl (by decide)
  · rw [if_neg c110] at hE
    refine y_ifF 26 k100_7 (by decide) c110 ?_
    refine y_aload_n k100_10 rfl rfl ?_
    refine y_getR k100_11 fk_0_43 sh0 rfl ?_
    refine y_getI k100_14 fk_0_101 sh180 rfl ?_
    refine y_bipush (v := 6) k100_17 b8_6 ?_
    by_cases c109 : 6 < (g106 180 1)
    · rw [if_pos c109] at hE
      refine y_icT (tgt := 26) k100_19 (by decide) c109 ?_
      refine y_iconst (v := 0) k100_26 oi_0 ?_
      obtain ⟨rfl, rfl⟩ := zpr hE
      exact y_zret k100_27 rfl (by decide)
    · rw [if_neg c109] at hE
      refine y_icF 26 k100_19 (by decide) c109 ?_
      refine y_iconst (v := 1) k100_22 oi_1 ?_
      refine y_goto (tgt := 27) k100_23 (by decide) ?_
      obtain ⟨rfl, rfl⟩ := zpr hE
      exact y_zret k100_27 rfl (by decide)
-- AdjectiveCoupons$Line.sort
def f103_51 (K : Nat) (k2 : Nat → Int32 → zS → Option (Unit × zS)) (o0 : Nat) (x1 : Int32) (g : zS) : Option (Unit × zS) := k2 o0 (x1 + 1) g
def f103_12 (K : Nat) (k2 : Nat → Int32 → zS → Option (Unit × zS)) : Nat → Nat → Int32 → Int32 → zS → Option (Unit × zS)
  | 0, _, _, _, _ => none
  | n + 1, o0, x1, x2, g => if x2 ≤ 0 then f103_51 K k2 o0 x1 g else (zbd (f21 K (o0 + 1) (x2 - 1) g) fun r139 g138 => zbd (f21 K (o0 + 1) x2 g138) fun r142 g141 => if r139 ≤ r142 then f103_51 K k2 o0 x1 g141 else (zbd (f104 K o0 (x2 - 1) x2 g141) fun _ g144 => (f103_12 K k2 n) o0 x1 (x2 + (-1)) g144))
def f103_2 (K : Nat) : Nat → Nat → Int32 → zS → Option (Unit × zS)
  | 0, _, _, _ => none
  | n + 1, o0, x1, g => if (g o0 1) ≤ x1 then some ((), g) else (f103_12 K (f103_2 K n) K o0 x1 x1 g)
def f103 (K : Nat) (o0 : Nat) (g : zS) : Option (Unit × zS) := f103_2 K K o0 1 g
theorem F103_51 {L : Nat} {xs : Nat → Int32} {d : Nat} (K : Nat) (k2 : Nat → Int32 → zS → Option (Unit × zS)) (hk2 : ∀ (o0 : Nat) (x1 : Int32) (h0 : zLine o0) (g : zS) (r : Unit) (g' : zS), k2 o0 x1 g = some (r, g') → zG2 L xs (d + 2) zm103 2 [some (.ref o0), some (.int x1), none] [] g none g') (o0 : Nat) (x1 : Int32) (h0 : zLine o0) (g : zS) (r : Unit) (g' : zS) (hE : f103_51 K k2 o0 x1 g = some (r, g')) : zG2 L xs (d + 2) zm103 51 [some (.ref o0), some (.int x1), none] [] g none g' := by
  unfold f103_51 at hE
  refine y_iinc (v := (x1 + 1)) (ls2 := [some (.ref o0), some (.int (x1 + 1)), none]) k103_51 rfl rfl (by rw [oi_1]) rfl ?_
  refine y_goto (tgt := 2) k103_54 (by decide) ?_
  exact hk2 o0 (x1 + 1) h0 _ _ _ hE
theorem F103_12 {L : Nat} {xs : Nat → Int32} {d : Nat} (K : Nat) (k2 : Nat → Int32 → zS → Option (Unit × zS)) (hk2 : ∀ (o0 : Nat) (x1 : Int32) (h0 : zLine o0) (g : zS) (r : Unit) (g' : zS), k2 o0 x1 g = some (r, g') → zG2 L xs (d + 2) zm103 2 [some (.ref o0), some (.int x1), none] [] g none g') : ∀ (n : Nat) (o0 : Nat) (x1 : Int32) (x2 : Int32) (h0 : zLine o0) (g : zS) (r : Unit) (g' : zS) (hE : f103_12 K k2 n o0 x1 x2 g = some (r, g')), zG2 L xs (d + 2) zm103 12 [some (.ref o0), some (.int x1), some (.int x2)] [] g none g' := by
  intro n
  induction n with
  | zero => intro o0 x1 x2 h0 g r g' hE; cases hE
  | succ n ih =>
    intro o0 x1 x2 h0 g r g' hE
    rw [f103_12] at hE
    refine y_iload_n k103_12 rfl ?_
    by_cases c148 : x2 ≤ 0
    · rw [if_pos c148] at hE
      refine y_ifT (tgt := 51) k103_13 (by decide) c148 ?_
      exact y_weak (ls0 := [some (.ref o0), some (.int x1), none]) ⟨rfl, rfl, rfl, trivial⟩ (F103_51 K k2 hk2 o0 x1 h0 _ _ _ hE)
    · rw [if_neg c148] at hE
      refine y_ifF 51 k103_13 (by decide) c148 ?_
      refine y_aload_n k103_16 rfl rfl ?_
      refine y_getR k103_17 fk_6_14 h0.1 rfl ?_
      refine y_iload_n k103_20 rfl ?_
      refine y_iconst (v := 1) k103_21 oi_1 ?_
      refine y_isub k103_22 ?_
      obtain ⟨r139, g138, hc140, hE⟩ := zbd_some hE
      refine y_invVi (j := 21) (As := [.int (x2 - 1)]) (rest := []) (N := zm21) (F21 K (o0 + 1) (x2 - 1) h0.2 _ r139 g138 hc140 (d + 1)) k103_23 lk_6_32 zm21_get na21 rfl (Nat.le_of_ble_eq_true rfl) h0.2.1 (by decide) rfl ?_
      refine y_aload_n k103_26 rfl rfl ?_
      refine y_getR k103_27 fk_6_14 h0.1 rfl ?_
      refine y_iload_n k103_30 rfl ?_
      obtain ⟨r142, g141, hc143, hE⟩ := zbd_some hE
      refine y_invVi (j := 21) (As := [.int x2]) (rest := [.int r139]) (N := zm21) (F21 K (o0 + 1) x2 h0.2 _ r142 g141 hc143 (d + 1)) k103_31 lk_6_32 zm21_get na21 rfl (Nat.le_of_ble_eq_true rfl) h0.2.1 (by decide) rfl ?_
      by_cases c147 : r139 ≤ r142
      · rw [if_pos c147] at hE
        refine y_icT (tgt := 51) k103_34 (by decide) c147 ?_
        exact y_weak (ls0 := [some (.ref o0), some (.int x1), none]) ⟨rfl, rfl, rfl, trivial⟩ (F103_51 K k2 hk2 o0 x1 h0 _ _ _ hE)
      · rw [if_neg c147] at hE
        refine y_icF 51 k103_34 (by decide) c147 ?_
        refine y_aload_n k103_37 rfl rfl ?_
        refine y_iload_n k103_38 rfl ?_
        refine y_iconst (v := 1) k103_39 oi_1 ?_
        refine y_isub k103_40 ?_
        refine y_iload_n k103_41 rfl ?_
        obtain ⟨u145, g144, hc146, hE⟩ := zbd_some hE
        refine y_invVv (j := 104) (As := [.int (x2 - 1), .int x2]) (rest := []) (N := zm104) (F104 K o0 (x2 - 1) x2 h0 _ u145 g144 hc146 (d + 0)) k103_42 lk_6_40 zm104_get na104 rfl (Nat.le_of_ble_eq_true rfl) h0.1 (by decide) rfl ?_
        refine y_iinc (v := (x2 + (-1))) (ls2 := [some (.ref o0), some (.int x1), some (.int (x2 + (-1)))]) k103_45 rfl rfl (by rw [oi_m1]) rfl ?_
        refine y_goto (tgt := 12) k103_48 (by decide) ?_
        exact ih o0 x1 (x2 + (-1)) h0 _ _ _ hE
theorem F103_2 {L : Nat} {xs : Nat → Int32} {d : Nat} (K : Nat) : ∀ (n : Nat) (o0 : Nat) (x1 : Int32) (h0 : zLine o0) (g : zS) (r : Unit) (g' : zS) (hE : f103_2 K n o0 x1 g = some (r, g')), zG2 L xs (d + 2) zm103 2 [some (.ref o0), some (.int x1), none] [] g none g' := by
  intro n
  induction n with
  | zero => intro o0 x1 h0 g r g' hE; cases hE
  | succ n ih =>
    intro o0 x1 h0 g r g' hE
    rw [f103_2] at hE
    refine y_iload_n k103_2 rfl ?_
    refine y_aload_n k103_3 rfl rfl ?_
    refine y_getI k103_4 fk_6_20 h0.1 rfl ?_
    by_cases c149 : (g o0 1) ≤ x1
    · rw [if_pos c149] at hE
      refine y_icT (tgt := 57) k103_7 (by decide) c149 ?_
      obtain ⟨rfl, rfl⟩ := zpr hE
      exact y_vret k103_57 rfl
    · rw [if_neg c149] at hE
      refine y_icF 57 k103_7 (by decide) c149 ?_
      refine y_iload_n k103_10 rfl ?_
      refine y_istore_n (ls2 := [some (.ref o0), some (.int x1), some (.int x1)]) k103_11 rfl (Nat.le_of_ble_eq_true rfl) rfl ?_
      exact F103_12 K (f103_2 K n) ih K o0 x1 x1 h0 _ _ _ hE
theorem F103 {L : Nat} {xs : Nat → Int32} (K : Nat) (o0 : Nat) (h0 : zLine o0) (g : zS) (r : Unit) (g' : zS) (hE : f103 K o0 g = some (r, g')) (d : Nat) : zE2 L xs (d + 3) 103 [.ref o0] g none g' := by
  refine y_ev (n := 0) (d := d + 2) (ls := [some (.ref o0), none, none]) zm103_get (by decide) (Nat.le_of_ble_eq_true rfl) rfl ?_
  unfold f103 at hE
  refine y_iconst (v := 1) k103_0 oi_1 ?_
  refine y_istore_n (ls2 := [some (.ref o0), some (.int 1), none]) k103_1 rfl (Nat.le_of_ble_eq_true rfl) rfl ?_
  exact F103_2 K K o0 1 h0 _ _ _ hE
-- AdjectiveCoupons$Trials.weigh
def f105_28 (K : Nat) (x1 : Int32) (g : zS) : Option (Unit × zS) := zbd (f102 K 217 214 (zup g 213 3 x1)) fun _ g114 => some ((), g114)
def f105 (K : Nat) (x1 : Int32) (g : zS) : Option (Unit × zS) := if ((zup g 213 4 (if (g 213 4) < x1 then x1 else (g 213 4))) 213 3) = (-1) then f105_28 K x1 (zup g 213 4 (if (g 213 4) < x1 then x1 else (g 213 4))) else if ((zup g 213 4 (if (g 213 4) < x1 then x1 else (g 213 4))) 213 3) ≤ x1 then some ((), (zup g 213 4 (if (g 213 4) < x1 then x1 else (g 213 4)))) else (f105_28 K x1 (zup g 213 4 (if (g 213 4) < x1 then x1 else (g 213 4))))
theorem F105_28 {L : Nat} {xs : Nat → Int32} {d : Nat} (K : Nat) (x1 : Int32) (g : zS) (r : Unit) (g' : zS) (hE : f105_28 K x1 g = some (r, g')) : zG2 L xs (d + 2) zm105 28 [some (.ref 213), some (.int x1)] [] g none g' := by
  unfold f105_28 at hE
  refine y_aload_n k105_28 rfl rfl ?_
  refine y_iload_n k105_29 rfl ?_
  refine y_putI k105_30 fk_9_30 sh213 rfl pi_9_3.1 pi_9_3.2 ?_
  refine y_aload_n k105_33 rfl rfl ?_
  refine y_getR k105_34 fk_9_18 sh213 rfl ?_
  refine y_aload_n k105_37 rfl rfl ?_
  refine y_getR k105_38 fk_9_12 sh213 rfl ?_
  obtain ⟨u115, g114, hc116, hE⟩ := zbd_some hE
  refine y_invVv (j := 102) (As := [.ref 214]) (rest := []) (N := zm102) (F102 K 217 214 li217 li214 _ u115 g114 hc116 (d + 0)) k105_41 lk_9_37 zm102_get na102 rfl (Nat.le_of_ble_eq_true rfl) sh217 (by decide) rfl ?_
  obtain ⟨rfl, rfl⟩ := zpr hE
  exact y_vret k105_44 rfl
theorem F105 {L : Nat} {xs : Nat → Int32} (K : Nat) (x1 : Int32) (g : zS) (r : Unit) (g' : zS) (hE : f105 K x1 g = some (r, g')) (d : Nat) : zE2 L xs (d + 3) 105 [.ref 213, .int x1] g none g' := by
  refine y_ev (n := 0) (d := d + 2) (ls := [some (.ref 213), some (.int x1)]) zm105_get (by decide) (Nat.le_of_ble_eq_true rfl) rfl ?_
  unfold f105 at hE
  refine y_aload_n k105_0 rfl rfl ?_
  refine y_aload_n k105_1 rfl rfl ?_
  refine y_getI k105_2 fk_9_34 sh213 rfl ?_
  refine y_iload_n k105_5 rfl ?_
  refine y_max k105_6 lk_9_61 (Nat.le_of_ble_eq_true rfl) ?_
  refine y_putI k105_9 fk_9_34 sh213 rfl pi_9_4.1 pi_9_4.2 ?_
  refine y_aload_n k105_12 rfl rfl ?_
  refine y_getI k105_13 fk_9_30 sh213 rfl ?_
  refine y_iconst (v := (-1)) k105_16 oi_m1 ?_
  by_cases c118 : ((zup g 213 4 (if (g 213 4) < x1 then x1 else (g 213 4))) 213 3) = (-1)
  · rw [if_pos c118] at hE
    refine y_icT (tgt := 28) k105_17 (by decide) c118 ?_
    exact F105_28 K x1 _ _ _ hE
  · rw [if_neg c118] at hE
    refine y_icF 28 k105_17 (by decide) c118 ?_
    refine y_iload_n k105_20 rfl ?_
    refine y_aload_n k105_21 rfl rfl ?_
    refine y_getI k105_22 fk_9_30 sh213 rfl ?_
    by_cases c117 : ((zup g 213 4 (if (g 213 4) < x1 then x1 else (g 213 4))) 213 3) ≤ x1
    · rw [if_pos c117] at hE
      refine y_icT (tgt := 44) k105_25 (by decide) c117 ?_
      obtain ⟨rfl, rfl⟩ := zpr hE
      exact y_vret k105_44 rfl
    · rw [if_neg c117] at hE
      refine y_icF 44 k105_25 (by decide) c117 ?_
      exact F105_28 K x1 _ _ _ hE
-- AdjectiveCoupons$Line.nextOrder
def f107_101 (K : Nat) : Nat → Nat → Int32 → Int32 → zS → Option (Int32 × zS)
  | 0, _, _, _, _ => none
  | n + 1, o0, x3, x4, g => if x4 ≤ x3 then some (1, g) else (zbd (f104 K o0 x3 x4 g) fun _ g203 => (f107_101 K n) o0 (x3 + 1) (x4 + (-1)) g203)
def f107_83 (K : Nat) (o0 : Nat) (x1 : Int32) (x2 : Int32) (g : zS) : Option (Int32 × zS) := zbd (f104 K o0 x1 x2 g) fun _ g207 => f107_101 K K o0 (x1 + 1) ((g207 o0 1) - 1) g207
def f107_51 (K : Nat) : Nat → Nat → Int32 → Int32 → zS → Option (Int32 × zS)
  | 0, _, _, _, _ => none
  | n + 1, o0, x1, x2, g => if x2 ≤ (x1 + 1) then f107_83 K o0 x1 x2 g else (zbd (f21 K (o0 + 1) x2 g) fun r211 g210 => zbd (f21 K (o0 + 1) x1 g210) fun r214 g213 => if r214 < r211 then f107_83 K o0 x1 x2 g213 else ((f107_51 K n) o0 x1 (x2 + (-1)) g213))
def f107_38 (K : Nat) (o0 : Nat) (x1 : Int32) (g : zS) : Option (Int32 × zS) := if 0 ≤ x1 then f107_51 K K o0 x1 ((g o0 1) - 1) g else (some (0, g))
def f107_7 (K : Nat) : Nat → Nat → Int32 → zS → Option (Int32 × zS)
  | 0, _, _, _ => none
  | n + 1, o0, x1, g => if x1 < 0 then f107_38 K o0 x1 g else (zbd (f21 K (o0 + 1) x1 g) fun r220 g219 => zbd (f21 K (o0 + 1) (x1 + 1) g219) fun r223 g222 => if r220 < r223 then f107_38 K o0 x1 g222 else ((f107_7 K n) o0 (x1 + (-1)) g222))
def f107 (K : Nat) (o0 : Nat) (g : zS) : Option (Int32 × zS) := f107_7 K K o0 ((g o0 1) - 2) g
theorem F107_101 {L : Nat} {xs : Nat → Int32} {d : Nat} (K : Nat) : ∀ (n : Nat) (o0 : Nat) (x3 : Int32) (x4 : Int32) (h0 : zLine o0) (g : zS) (r : Int32) (g' : zS) (hE : f107_101 K n o0 x3 x4 g = some (r, g')), zG2 L xs (d + 2) zm107 101 [some (.ref o0), none, none, some (.int x3), some (.int x4)] [] g (some (.int r)) g' := by
  intro n
  induction n with
  | zero => intro o0 x3 x4 h0 g r g' hE; cases hE
  | succ n ih =>
    intro o0 x3 x4 h0 g r g' hE
    rw [f107_101] at hE
    refine y_iload_n k107_101 rfl ?_
    refine y_iload k107_102 rfl ?_
    by_cases c206 : x4 ≤ x3
    · rw [if_pos c206] at hE
      refine y_icT (tgt := 123) k107_104 (by decide) c206 ?_
      refine y_iconst (v := 1) k107_123 oi_1 ?_
      obtain ⟨rfl, rfl⟩ := zpr hE
      exact y_zret k107_124 rfl (by decide)
    · rw [if_neg c206] at hE
      refine y_icF 123 k107_104 (by decide) c206 ?_
      refine y_aload_n k107_107 rfl rfl ?_
      refine y_iload_n k107_108 rfl ?_
      refine y_iload k107_109 rfl ?_
      obtain ⟨u204, g203, hc205, hE⟩ := zbd_some hE
      refine y_invVv (j := 104) (As := [.int x3, .int x4]) (rest := []) (N := zm104) (F104 K o0 x3 x4 h0 _ u204 g203 hc205 (d + 0)) k107_111 lk_6_40 zm104_get na104 rfl (Nat.le_of_ble_eq_true rfl) h0.1 (by decide) rfl ?_
      refine y_iinc (v := (x3 + 1)) (ls2 := [some (.ref o0), none, none, some (.int (x3 + 1)), some (.int x4)]) k107_114 rfl rfl (by rw [oi_1]) rfl ?_
      refine y_iinc (v := (x4 + (-1))) (ls2 := [some (.ref o0), none, none, some (.int (x3 + 1)), some (.int (x4 + (-1)))]) k107_117 rfl rfl (by rw [oi_m1]) rfl ?_
      refine y_goto (tgt := 101) k107_120 (by decide) ?_
      exact ih o0 (x3 + 1) (x4 + (-1)) h0 _ _ _ hE
theorem F107_83 {L : Nat} {xs : Nat → Int32} {d : Nat} (K : Nat) (o0 : Nat) (x1 : Int32) (x2 : Int32) (h0 : zLine o0) (g : zS) (r : Int32) (g' : zS) (hE : f107_83 K o0 x1 x2 g = some (r, g')) : zG2 L xs (d + 2) zm107 83 [some (.ref o0), some (.int x1), some (.int x2), none, none] [] g (some (.int r)) g' := by
  unfold f107_83 at hE
  refine y_aload_n k107_83 rfl rfl ?_
  refine y_iload_n k107_84 rfl ?_
  refine y_iload_n k107_85 rfl ?_
  obtain ⟨u208, g207, hc209, hE⟩ := zbd_some hE
  refine y_invVv (j := 104) (As := [.int x1, .int x2]) (rest := []) (N := zm104) (F104 K o0 x1 x2 h0 _ u208 g207 hc209 (d + 0)) k107_86 lk_6_40 zm104_get na104 rfl (Nat.le_of_ble_eq_true rfl) h0.1 (by decide) rfl ?_
  refine y_iload_n k107_89 rfl ?_
  refine y_iconst (v := 1) k107_90 oi_1 ?_
  refine y_iadd k107_91 ?_
  refine y_istore_n (ls2 := [some (.ref o0), some (.int x1), some (.int x2), some (.int (x1 + 1)), none]) k107_92 rfl (Nat.le_of_ble_eq_true rfl) rfl ?_
  refine y_aload_n k107_93 rfl rfl ?_
  refine y_getI k107_94 fk_6_20 h0.1 rfl ?_
  refine y_iconst (v := 1) k107_97 oi_1 ?_
  refine y_isub k107_98 ?_
  refine y_istore (ls2 := [some (.ref o0), some (.int x1), some (.int x2), some (.int (x1 + 1)), some (.int ((g207 o0 1) - 1))]) k107_99 rfl (Nat.le_of_ble_eq_true rfl) rfl ?_
  exact y_weak (ls0 := [some (.ref o0), none, none, some (.int (x1 + 1)), some (.int ((g207 o0 1) - 1))]) ⟨rfl, rfl, rfl, rfl, rfl, trivial⟩ (F107_101 K K o0 (x1 + 1) ((g207 o0 1) - 1) h0 _ _ _ hE)
theorem F107_51 {L : Nat} {xs : Nat → Int32} {d : Nat} (K : Nat) : ∀ (n : Nat) (o0 : Nat) (x1 : Int32) (x2 : Int32) (h0 : zLine o0) (g : zS) (r : Int32) (g' : zS) (hE : f107_51 K n o0 x1 x2 g = some (r, g')), zG2 L xs (d + 2) zm107 51 [some (.ref o0), some (.int x1), some (.int x2), none, none] [] g (some (.int r)) g' := by
  intro n
  induction n with
  | zero => intro o0 x1 x2 h0 g r g' hE; cases hE
  | succ n ih =>
    intro o0 x1 x2 h0 g r g' hE
    rw [f107_51] at hE
    refine y_iload_n k107_51 rfl ?_
    refine y_iload_n k107_52 rfl ?_
    refine y_iconst (v := 1) k107_53 oi_1 ?_
    refine y_iadd k107_54 ?_
    by_cases c217 : x2 ≤ (x1 + 1)
    · rw [if_pos c217] at hE
      refine y_icT (tgt := 83) k107_55 (by decide) c217 ?_
      exact F107_83 K o0 x1 x2 h0 _ _ _ hE
    · rw [if_neg c217] at hE
      refine y_icF 83 k107_55 (by decide) c217 ?_
      refine y_aload_n k107_58 rfl rfl ?_
      refine y_getR k107_59 fk_6_14 h0.1 rfl ?_
      refine y_iload_n k107_62 rfl ?_
      obtain ⟨r211, g210, hc212, hE⟩ := zbd_some hE
      refine y_invVi (j := 21) (As := [.int x2]) (rest := []) (N := zm21) (F21 K (o0 + 1) x2 h0.2 _ r211 g210 hc212 (d + 1)) k107_63 lk_6_32 zm21_get na21 rfl (Nat.le_of_ble_eq_true rfl) h0.2.1 (by decide) rfl ?_
      refine y_aload_n k107_66 rfl rfl ?_
      refine y_getR k107_67 fk_6_14 h0.1 rfl ?_
      refine y_iload_n k107_70 rfl ?_
      obtain ⟨r214, g213, hc215, hE⟩ := zbd_some hE
      refine y_invVi (j := 21) (As := [.int x1]) (rest := [.int r211]) (N := zm21) (F21 K (o0 + 1) x1 h0.2 _ r214 g213 hc215 (d + 1)) k107_71 lk_6_32 zm21_get na21 rfl (Nat.le_of_ble_eq_true rfl) h0.2.1 (by decide) rfl ?_
      by_cases c216 : r214 < r211
      · rw [if_pos c216] at hE
        refine y_icT (tgt := 83) k107_74 (by decide) c216 ?_
        exact F107_83 K o0 x1 x2 h0 _ _ _ hE
      · rw [if_neg c216] at hE
        refine y_icF 83 k107_74 (by decide) c216 ?_
        refine y_iinc (v := (x2 + (-1))) (ls2 := [some (.ref o0), some (.int x1), some (.int (x2 + (-1))), none, none]) k107_77 rfl rfl (by rw [oi_m1]) rfl ?_
        refine y_goto (tgt := 51) k107_80 (by decide) ?_
        exact ih o0 x1 (x2 + (-1)) h0 _ _ _ hE
theorem F107_38 {L : Nat} {xs : Nat → Int32} {d : Nat} (K : Nat) (o0 : Nat) (x1 : Int32) (h0 : zLine o0) (g : zS) (r : Int32) (g' : zS) (hE : f107_38 K o0 x1 g = some (r, g')) : zG2 L xs (d + 2) zm107 38 [some (.ref o0), some (.int x1), none, none, none] [] g (some (.int r)) g' := by
  unfold f107_38 at hE
  refine y_iload_n k107_38 rfl ?_
  by_cases c218 : 0 ≤ x1
  · rw [if_pos c218] at hE
    refine y_ifT (tgt := 44) k107_39 (by decide) c218 ?_
    refine y_aload_n k107_44 rfl rfl ?_
    refine y_getI k107_45 fk_6_20 h0.1 rfl ?_
    refine y_iconst (v := 1) k107_48 oi_1 ?_
    refine y_isub k107_49 ?_
    refine y_istore_n (ls2 := [some (.ref o0), some (.int x1), some (.int ((g o0 1) - 1)), none, none]) k107_50 rfl (Nat.le_of_ble_eq_true rfl) rfl ?_
    exact F107_51 K K o0 x1 ((g o0 1) - 1) h0 _ _ _ hE
  · rw [if_neg c218] at hE
    refine y_ifF 44 k107_39 (by decide) c218 ?_
    refine y_iconst (v := 0) k107_42 oi_0 ?_
    obtain ⟨rfl, rfl⟩ := zpr hE
    exact y_zret k107_43 rfl (by decide)
theorem F107_7 {L : Nat} {xs : Nat → Int32} {d : Nat} (K : Nat) : ∀ (n : Nat) (o0 : Nat) (x1 : Int32) (h0 : zLine o0) (g : zS) (r : Int32) (g' : zS) (hE : f107_7 K n o0 x1 g = some (r, g')), zG2 L xs (d + 2) zm107 7 [some (.ref o0), some (.int x1), none, none, none] [] g (some (.int r)) g' := by
  intro n
  induction n with
  | zero => intro o0 x1 h0 g r g' hE; cases hE
  | succ n ih =>
    intro o0 x1 h0 g r g' hE
    rw [f107_7] at hE
    refine y_iload_n k107_7 rfl ?_
    by_cases c226 : x1 < 0
    · rw [if_pos c226] at hE
      refine y_ifT (tgt := 38) k107_8 (by decide) c226 ?_
      exact F107_38 K o0 x1 h0 _ _ _ hE
    · rw [if_neg c226] at hE
      refine y_ifF 38 k107_8 (by decide) c226 ?_
      refine y_aload_n k107_11 rfl rfl ?_
      refine y_getR k107_12 fk_6_14 h0.1 rfl ?_
      refine y_iload_n k107_15 rfl ?_
      obtain ⟨r220, g219, hc221, hE⟩ := zbd_some hE
      refine y_invVi (j := 21) (As := [.int x1]) (rest := []) (N := zm21) (F21 K (o0 + 1) x1 h0.2 _ r220 g219 hc221 (d + 1)) k107_16 lk_6_32 zm21_get na21 rfl (Nat.le_of_ble_eq_true rfl) h0.2.1 (by decide) rfl ?_
      refine y_aload_n k107_19 rfl rfl ?_
      refine y_getR k107_20 fk_6_14 h0.1 rfl ?_
      refine y_iload_n k107_23 rfl ?_
      refine y_iconst (v := 1) k107_24 oi_1 ?_
      refine y_iadd k107_25 ?_
      obtain ⟨r223, g222, hc224, hE⟩ := zbd_some hE
      refine y_invVi (j := 21) (As := [.int (x1 + 1)]) (rest := [.int r220]) (N := zm21) (F21 K (o0 + 1) (x1 + 1) h0.2 _ r223 g222 hc224 (d + 1)) k107_26 lk_6_32 zm21_get na21 rfl (Nat.le_of_ble_eq_true rfl) h0.2.1 (by decide) rfl ?_
      by_cases c225 : r220 < r223
      · rw [if_pos c225] at hE
        refine y_icT (tgt := 38) k107_29 (by decide) c225 ?_
        exact F107_38 K o0 x1 h0 _ _ _ hE
      · rw [if_neg c225] at hE
        refine y_icF 38 k107_29 (by decide) c225 ?_
        refine y_iinc (v := (x1 + (-1))) (ls2 := [some (.ref o0), some (.int (x1 + (-1))), none, none, none]) k107_32 rfl rfl (by rw [oi_m1]) rfl ?_
        refine y_goto (tgt := 7) k107_35 (by decide) ?_
        exact ih o0 (x1 + (-1)) h0 _ _ _ hE
theorem F107 {L : Nat} {xs : Nat → Int32} (K : Nat) (o0 : Nat) (h0 : zLine o0) (g : zS) (r : Int32) (g' : zS) (hE : f107 K o0 g = some (r, g')) (d : Nat) : zE2 L xs (d + 3) 107 [.ref o0] g (some (.int r)) g' := by
  refine y_ev (n := 0) (d := d + 2) (ls := [some (.ref o0), none, none, none, none]) zm107_get (by decide) (Nat.le_of_ble_eq_true rfl) rfl ?_
  unfold f107 at hE
  refine y_aload_n k107_0 rfl rfl ?_
  refine y_getI k107_1 fk_6_20 h0.1 rfl ?_
  refine y_iconst (v := 2) k107_4 oi_2 ?_
  refine y_isub k107_5 ?_
  refine y_istore_n (ls2 := [some (.ref o0), some (.int ((g o0 1) - 2)), none, none, none]) k107_6 rfl (Nat.le_of_ble_eq_true rfl) rfl ?_
  exact F107_7 K K o0 ((g o0 1) - 2) h0 _ _ _ hE
-- AdjectiveCoupons$Trials.leaveOut
def f112_53 (K : Nat) (k10 : Nat → Int32 → Int32 → zS → Option (Int32 × zS)) (o1 : Nat) (x2 : Int32) (x3 : Int32) (g : zS) : Option (Int32 × zS) := k10 o1 x2 (x3 + 1) g
def f112_10 (K : Nat) : Nat → Nat → Int32 → Int32 → zS → Option (Int32 × zS)
  | 0, _, _, _, _ => none
  | n + 1, o1, x2, x3, g => if (g o1 1) ≤ x3 then some (1, g) else (zbd (f64 K x2 x3 g) fun r147 g146 => if ¬ r147 = 0 then zbd (f62 K o1 x3 g146) fun r150 g149 => if ¬ r150 = (-1) then f112_53 K (f112_10 K n) o1 x2 x3 g149 else (some (0, g149)) else (zbd (f62 K o1 x3 g146) fun r154 g153 => zbd (f69 K 214 r154 g153) fun r157 g156 => f112_53 K (f112_10 K n) o1 x2 x3 g156))
def f112 (K : Nat) (o1 : Nat) (x2 : Int32) (g : zS) : Option (Int32 × zS) := f112_10 K K o1 x2 0 (zup g 214 1 0)
theorem F112_53 {L : Nat} {xs : Nat → Int32} {d : Nat} (K : Nat) (k10 : Nat → Int32 → Int32 → zS → Option (Int32 × zS)) (hk10 : ∀ (o1 : Nat) (x2 : Int32) (x3 : Int32) (h1 : zLine o1) (g : zS) (r : Int32) (g' : zS), k10 o1 x2 x3 g = some (r, g') → zG2 L xs (d + 2) zm112 10 [some (.ref 213), some (.ref o1), some (.int x2), some (.int x3)] [] g (some (.int r)) g') (o1 : Nat) (x2 : Int32) (x3 : Int32) (h1 : zLine o1) (g : zS) (r : Int32) (g' : zS) (hE : f112_53 K k10 o1 x2 x3 g = some (r, g')) : zG2 L xs (d + 2) zm112 53 [some (.ref 213), some (.ref o1), some (.int x2), some (.int x3)] [] g (some (.int r)) g' := by
  unfold f112_53 at hE
  refine y_iinc (v := (x3 + 1)) (ls2 := [some (.ref 213), some (.ref o1), some (.int x2), some (.int (x3 + 1))]) k112_53 rfl rfl (by rw [oi_1]) rfl ?_
  refine y_goto (tgt := 10) k112_56 (by decide) ?_
  exact hk10 o1 x2 (x3 + 1) h1 _ _ _ hE
theorem F112_10 {L : Nat} {xs : Nat → Int32} {d : Nat} (K : Nat) : ∀ (n : Nat) (o1 : Nat) (x2 : Int32) (x3 : Int32) (h1 : zLine o1) (g : zS) (r : Int32) (g' : zS) (hE : f112_10 K n o1 x2 x3 g = some (r, g')), zG2 L xs (d + 2) zm112 10 [some (.ref 213), some (.ref o1), some (.int x2), some (.int x3)] [] g (some (.int r)) g' := by
  intro n
  induction n with
  | zero => intro o1 x2 x3 h1 g r g' hE; cases hE
  | succ n ih =>
    intro o1 x2 x3 h1 g r g' hE
    rw [f112_10] at hE
    refine y_iload_n k112_10 rfl ?_
    refine y_aload_n k112_11 rfl rfl ?_
    refine y_getI k112_12 fk_9_70 h1.1 rfl ?_
    by_cases c160 : (g o1 1) ≤ x3
    · rw [if_pos c160] at hE
      refine y_icT (tgt := 59) k112_15 (by decide) c160 ?_
      refine y_iconst (v := 1) k112_59 oi_1 ?_
      obtain ⟨rfl, rfl⟩ := zpr hE
      exact y_zret k112_60 rfl (by decide)
    · rw [if_neg c160] at hE
      refine y_icF 59 k112_15 (by decide) c160 ?_
      refine y_iload_n k112_18 rfl ?_
      refine y_iload_n k112_19 rfl ?_
      obtain ⟨r147, g146, hc148, hE⟩ := zbd_some hE
      refine y_invSi (j := 64) (As := [.int x2, .int x3]) (rest := []) (N := zm64) (F64 K x2 x3 _ r147 g146 hc148 (d + 1)) k112_20 lk_9_83 zm64_get na64 rfl (Nat.le_of_ble_eq_true rfl) ?_
      by_cases c159 : ¬ r147 = 0
      · rw [if_pos c159] at hE
        refine y_ifT (tgt := 42) k112_23 (by decide) c159 ?_
        refine y_aload_n k112_42 rfl rfl ?_
        refine y_iload_n k112_43 rfl ?_
        obtain ⟨r150, g149, hc151, hE⟩ := zbd_some hE
        refine y_invVi (j := 62) (As := [.int x3]) (rest := []) (N := zm62) (F62 K o1 x3 h1 _ r150 g149 hc151 (d + 0)) k112_44 lk_9_87 zm62_get na62 rfl (Nat.le_of_ble_eq_true rfl) h1.1 (by decide) rfl ?_
        refine y_iconst (v := (-1)) k112_47 oi_m1 ?_
        by_cases c152 : ¬ r150 = (-1)
        · rw [if_pos c152] at hE
          refine y_icT (tgt := 53) k112_48 (by decide) c152 ?_
          exact F112_53 K (f112_10 K n) ih o1 x2 x3 h1 _ _ _ hE
        · rw [if_neg c152] at hE
          refine y_icF 53 k112_48 (by decide) c152 ?_
          refine y_iconst (v := 0) k112_51 oi_0 ?_
          obtain ⟨rfl, rfl⟩ := zpr hE
          exact y_zret k112_52 rfl (by decide)
      · rw [if_neg c159] at hE
        refine y_ifF 42 k112_23 (by decide) c159 ?_
        refine y_aload_n k112_26 rfl rfl ?_
        refine y_getR k112_27 fk_9_12 sh213 rfl ?_
        refine y_aload_n k112_30 rfl rfl ?_
        refine y_iload_n k112_31 rfl ?_
        obtain ⟨r154, g153, hc155, hE⟩ := zbd_some hE
        refine y_invVi (j := 62) (As := [.int x3]) (rest := [.ref 214]) (N := zm62) (F62 K o1 x3 h1 _ r154 g153 hc155 (d + 0)) k112_32 lk_9_87 zm62_get na62 rfl (Nat.le_of_ble_eq_true rfl) h1.1 (by decide) rfl ?_
        obtain ⟨r157, g156, hc158, hE⟩ := zbd_some hE
        refine y_invVi (j := 69) (As := [.int r154]) (rest := []) (N := zm69) (F69 K 214 r154 li214 _ r157 g156 hc158 (d + 0)) k112_35 lk_9_90 zm69_get na69 rfl (Nat.le_of_ble_eq_true rfl) sh214 (by decide) rfl ?_
        refine y_pop k112_38 rfl ?_
        refine y_goto (tgt := 53) k112_39 (by decide) ?_
        exact F112_53 K (f112_10 K n) ih o1 x2 x3 h1 _ _ _ hE
theorem F112 {L : Nat} {xs : Nat → Int32} (K : Nat) (o1 : Nat) (x2 : Int32) (h1 : zLine o1) (g : zS) (r : Int32) (g' : zS) (hE : f112 K o1 x2 g = some (r, g')) (d : Nat) : zE2 L xs (d + 3) 112 [.ref 213, .ref o1, .int x2] g (some (.int r)) g' := by
  refine y_ev (n := 0) (d := d + 2) (ls := [some (.ref 213), some (.ref o1), some (.int x2), none]) zm112_get (by decide) (Nat.le_of_ble_eq_true rfl) rfl ?_
  unfold f112 at hE
  refine y_aload_n k112_0 rfl rfl ?_
  refine y_getR k112_1 fk_9_12 sh213 rfl ?_
  refine y_iconst (v := 0) k112_4 oi_0 ?_
  refine y_putI k112_5 fk_9_70 sh214 rfl pi_6_1.1 pi_6_1.2 ?_
  refine y_iconst (v := 0) k112_8 oi_0 ?_
  refine y_istore_n (ls2 := [some (.ref 213), some (.ref o1), some (.int x2), some (.int 0)]) k112_9 rfl (Nat.le_of_ble_eq_true rfl) rfl ?_
  exact F112_10 K K o1 x2 0 h1 _ _ _ hE
-- AdjectiveCoupons$Trials.nextFilling
def f117_5 (K : Nat) : Nat → Nat → Int32 → Int32 → zS → Option (Int32 × zS)
  | 0, _, _, _, _ => none
  | n + 1, o1, x3, x4, g => if x4 < 0 then some (0, g) else (zbd (f115 K o1 x4 g) fun r144 g143 => zbd (f62 K 214 r144 g143) fun r147 g146 => if x3 ≤ (r147 + 1) then zbd (f116 K 214 r144 0 g146) fun _ g149 => (f117_5 K n) o1 x3 (x4 + (-1)) g149 else (zbd (f116 K 214 r144 (r147 + 1) g146) fun _ g152 => some (1, g152)))
def f117 (K : Nat) (o1 : Nat) (x2 : Int32) (x3 : Int32) (g : zS) : Option (Int32 × zS) := f117_5 K K o1 x3 (x2 - 1) g
theorem F117_5 {L : Nat} {xs : Nat → Int32} {d : Nat} (K : Nat) : ∀ (n : Nat) (o1 : Nat) (x3 : Int32) (x4 : Int32) (h1 : zLine o1) (g : zS) (r : Int32) (g' : zS) (hE : f117_5 K n o1 x3 x4 g = some (r, g')), zG2 L xs (d + 2) zm117 5 [some (.ref 213), some (.ref o1), none, some (.int x3), some (.int x4), none, none] [] g (some (.int r)) g' := by
  intro n
  induction n with
  | zero => intro o1 x3 x4 h1 g r g' hE; cases hE
  | succ n ih =>
    intro o1 x3 x4 h1 g r g' hE
    rw [f117_5] at hE
    refine y_iload k117_5 rfl ?_
    by_cases c156 : x4 < 0
    · rw [if_pos c156] at hE
      refine y_ifT (tgt := 66) k117_7 (by decide) c156 ?_
      refine y_iconst (v := 0) k117_66 oi_0 ?_
      obtain ⟨rfl, rfl⟩ := zpr hE
      exact y_zret k117_67 rfl (by decide)
    · rw [if_neg c156] at hE
      refine y_ifF 66 k117_7 (by decide) c156 ?_
      refine y_aload_n k117_10 rfl rfl ?_
      refine y_iload k117_11 rfl ?_
      obtain ⟨r144, g143, hc145, hE⟩ := zbd_some hE
      refine y_invVi (j := 115) (As := [.int x4]) (rest := []) (N := zm115) (F115 K o1 x4 h1 _ r144 g143 hc145 (d + 0)) k117_13 lk_9_101 zm115_get na115 rfl (Nat.le_of_ble_eq_true rfl) h1.1 (by decide) rfl ?_
      refine y_istore (ls2 := [some (.ref 213), some (.ref o1), none, some (.int x3), some (.int x4), some (.int r144), none]) k117_16 rfl (Nat.le_of_ble_eq_true rfl) rfl ?_
      refine y_aload_n k117_18 rfl rfl ?_
      refine y_getR k117_19 fk_9_12 sh213 rfl ?_
      refine y_iload k117_22 rfl ?_
      obtain ⟨r147, g146, hc148, hE⟩ := zbd_some hE
      refine y_invVi (j := 62) (As := [.int r144]) (rest := []) (N := zm62) (F62 K 214 r144 li214 _ r147 g146 hc148 (d + 0)) k117_24 lk_9_87 zm62_get na62 rfl (Nat.le_of_ble_eq_true rfl) sh214 (by decide) rfl ?_
      refine y_iconst (v := 1) k117_27 oi_1 ?_
      refine y_iadd k117_28 ?_
      refine y_istore (ls2 := [some (.ref 213), some (.ref o1), none, some (.int x3), some (.int x4), some (.int r144), some (.int (r147 + 1))]) k117_29 rfl (Nat.le_of_ble_eq_true rfl) rfl ?_
      refine y_iload k117_31 rfl ?_
      refine y_iload_n k117_33 rfl ?_
      by_cases c155 : x3 ≤ (r147 + 1)
      · rw [if_pos c155] at hE
        refine y_icT (tgt := 50) k117_34 (by decide) c155 ?_
        refine y_aload_n k117_50 rfl rfl ?_
        refine y_getR k117_51 fk_9_12 sh213 rfl ?_
        refine y_iload k117_54 rfl ?_
        refine y_iconst (v := 0) k117_56 oi_0 ?_
        obtain ⟨u150, g149, hc151, hE⟩ := zbd_some hE
        refine y_invVv (j := 116) (As := [.int r144, .int 0]) (rest := []) (N := zm116) (F116 K 214 r144 0 li214 _ u150 g149 hc151 (d + 0)) k117_57 lk_9_104 zm116_get na116 rfl (Nat.le_of_ble_eq_true rfl) sh214 (by decide) rfl ?_
        refine y_iinc (v := (x4 + (-1))) (ls2 := [some (.ref 213), some (.ref o1), none, some (.int x3), some (.int (x4 + (-1))), some (.int r144), some (.int (r147 + 1))]) k117_60 rfl rfl (by rw [oi_m1]) rfl ?_
        refine y_goto (tgt := 5) k117_63 (by decide) ?_
        exact y_weak (ls0 := [some (.ref 213), some (.ref o1), none, some (.int x3), some (.int (x4 + (-1))), none, none]) ⟨rfl, rfl, rfl, rfl, rfl, rfl, rfl, trivial⟩ (ih o1 x3 (x4 + (-1)) h1 _ _ _ hE)
      · rw [if_neg c155] at hE
        refine y_icF 50 k117_34 (by decide) c155 ?_
        refine y_aload_n k117_37 rfl rfl ?_
        refine y_getR k117_38 fk_9_12 sh213 rfl ?_
        refine y_iload k117_41 rfl ?_
        refine y_iload k117_43 rfl ?_
        obtain ⟨u153, g152, hc154, hE⟩ := zbd_some hE
        refine y_invVv (j := 116) (As := [.int r144, .int (r147 + 1)]) (rest := []) (N := zm116) (F116 K 214 r144 (r147 + 1) li214 _ u153 g152 hc154 (d + 0)) k117_45 lk_9_104 zm116_get na116 rfl (Nat.le_of_ble_eq_true rfl) sh214 (by decide) rfl ?_
        refine y_iconst (v := 1) k117_48 oi_1 ?_
        obtain ⟨rfl, rfl⟩ := zpr hE
        exact y_zret k117_49 rfl (by decide)
theorem F117 {L : Nat} {xs : Nat → Int32} (K : Nat) (o1 : Nat) (x2 : Int32) (x3 : Int32) (h1 : zLine o1) (g : zS) (r : Int32) (g' : zS) (hE : f117 K o1 x2 x3 g = some (r, g')) (d : Nat) : zE2 L xs (d + 3) 117 [.ref 213, .ref o1, .int x2, .int x3] g (some (.int r)) g' := by
  refine y_ev (n := 0) (d := d + 2) (ls := [some (.ref 213), some (.ref o1), some (.int x2), some (.int x3), none, none, none]) zm117_get (by decide) (Nat.le_of_ble_eq_true rfl) rfl ?_
  unfold f117 at hE
  refine y_iload_n k117_0 rfl ?_
  refine y_iconst (v := 1) k117_1 oi_1 ?_
  refine y_isub k117_2 ?_
  refine y_istore (ls2 := [some (.ref 213), some (.ref o1), some (.int x2), some (.int x3), some (.int (x2 - 1)), none, none]) k117_3 rfl (Nat.le_of_ble_eq_true rfl) rfl ?_
  exact y_weak (ls0 := [some (.ref 213), some (.ref o1), none, some (.int x3), some (.int (x2 - 1)), none, none]) ⟨rfl, rfl, rfl, rfl, rfl, rfl, rfl, trivial⟩ (F117_5 K K o1 x3 (x2 - 1) h1 _ _ _ hE)
-- AdjectiveCoupons$Drafts.append
def f119 (K : Nat) (o1 : Nat) (g : zS) : Option (Int32 × zS) := if (g 186 4) < 6 then zbd (f120 K (g 186 4) g) fun q110 g109 => zbd (f102 K q110 o1 g109) fun _ g113 => some (1, (zup g113 186 4 ((g113 186 4) + 1))) else (some (0, g))
theorem F119 {L : Nat} {xs : Nat → Int32} (K : Nat) (o1 : Nat) (h1 : zLine o1) (g : zS) (r : Int32) (g' : zS) (hE : f119 K o1 g = some (r, g')) (d : Nat) : zE2 L xs (d + 3) 119 [.ref 186, .ref o1] g (some (.int r)) g' := by
  refine y_ev (n := 0) (d := d + 2) (ls := [some (.ref 186), some (.ref o1)]) zm119_get (by decide) (Nat.le_of_ble_eq_true rfl) rfl ?_
  unfold f119 at hE
  refine y_aload_n k119_0 rfl rfl ?_
  refine y_getI k119_1 fk_8_34 sh186 rfl ?_
  refine y_bipush (v := 6) k119_4 b8_6 ?_
  by_cases c116 : (g 186 4) < 6
  · rw [if_pos c116] at hE
    refine y_icT (tgt := 11) k119_6 (by decide) c116 ?_
    refine y_aload_n k119_11 rfl rfl ?_
    refine y_aload_n k119_12 rfl rfl ?_
    refine y_getI k119_13 fk_8_34 sh186 rfl ?_
    obtain ⟨q110, g109, hc111, hE⟩ := zbd_some hE
    have hz112 := P120 hc111
    refine y_invVn (j := 120) (As := [.int (g 186 4)]) (rest := []) (N := zm120) (F120 K (g 186 4) _ q110 g109 hc111 (d + 1)) k119_16 lk_8_38 zm120_get na120 rfl (Nat.le_of_ble_eq_true rfl) sh186 (by decide) rfl ?_
    refine y_aload_n k119_19 rfl rfl ?_
    obtain ⟨u114, g113, hc115, hE⟩ := zbd_some hE
    refine y_invVv (j := 102) (As := [.ref o1]) (rest := []) (N := zm102) (F102 K q110 o1 hz112 h1 _ u114 g113 hc115 (d + 0)) k119_20 lk_8_42 zm102_get na102 rfl (Nat.le_of_ble_eq_true rfl) hz112.1 (by decide) rfl ?_
    refine y_aload_n k119_23 rfl rfl ?_
    refine y_dup k119_24 rfl ?_
    refine y_getI k119_25 fk_8_34 sh186 rfl ?_
    refine y_iconst (v := 1) k119_28 oi_1 ?_
    refine y_iadd k119_29 ?_
    refine y_putI k119_30 fk_8_34 sh186 rfl pi_8_4.1 pi_8_4.2 ?_
    refine y_iconst (v := 1) k119_33 oi_1 ?_
    obtain ⟨rfl, rfl⟩ := zpr hE
    exact y_zret k119_34 rfl (by decide)
  · rw [if_neg c116] at hE
    refine y_icF 11 k119_6 (by decide) c116 ?_
    refine y_iconst (v := 0) k119_9 oi_0 ?_
    obtain ⟨rfl, rfl⟩ := zpr hE
    exact y_zret k119_10 rfl (by decide)
-- AdjectiveCoupons$Drafts.offer
def f128 (K : Nat) (x1 : Int32) (g : zS) : Option (Unit × zS) := zbd (f127 K 193 x1 g) fun r106 g105 => if r106 ≤ (g105 186 5) then some ((), g105) else (some ((), (zup (zup g105 186 5 r106) 186 6 x1)))
theorem F128 {L : Nat} {xs : Nat → Int32} (K : Nat) (x1 : Int32) (g : zS) (r : Unit) (g' : zS) (hE : f128 K x1 g = some (r, g')) (d : Nat) : zE2 L xs (d + 3) 128 [.ref 186, .int x1] g none g' := by
  refine y_ev (n := 0) (d := d + 2) (ls := [some (.ref 186), some (.int x1), none]) zm128_get (by decide) (Nat.le_of_ble_eq_true rfl) rfl ?_
  unfold f128 at hE
  refine y_aload_n k128_0 rfl rfl ?_
  refine y_aload_n k128_1 rfl rfl ?_
  refine y_getR k128_2 fk_8_31 sh186 rfl ?_
  refine y_iload_n k128_5 rfl ?_
  obtain ⟨r106, g105, hc107, hE⟩ := zbd_some hE
  refine y_invVi (j := 127) (As := [.ref 193, .int x1]) (rest := []) (N := zm127) (F127 K 193 x1 rw193 _ r106 g105 hc107 (d + 0)) k128_6 lk_8_72 zm127_get na127 rfl (Nat.le_of_ble_eq_true rfl) sh186 (by decide) rfl ?_
  refine y_istore_n (ls2 := [some (.ref 186), some (.int x1), some (.int r106)]) k128_9 rfl (Nat.le_of_ble_eq_true rfl) rfl ?_
  refine y_iload_n k128_10 rfl ?_
  refine y_aload_n k128_11 rfl rfl ?_
  refine y_getI k128_12 fk_8_66 sh186 rfl ?_
  by_cases c108 : r106 ≤ (g105 186 5)
  · rw [if_pos c108] at hE
    refine y_icT (tgt := 28) k128_15 (by decide) c108 ?_
    obtain ⟨rfl, rfl⟩ := zpr hE
    exact y_vret k128_28 rfl
  · rw [if_neg c108] at hE
    refine y_icF 28 k128_15 (by decide) c108 ?_
    refine y_aload_n k128_18 rfl rfl ?_
    refine y_iload_n k128_19 rfl ?_
    refine y_putI k128_20 fk_8_66 sh186 rfl pi_8_5.1 pi_8_5.2 ?_
    refine y_aload_n k128_23 rfl rfl ?_
    refine y_iload_n k128_24 rfl ?_
    refine y_putI k128_25 fk_8_69 sh186 rfl pi_8_6.1 pi_8_6.2 ?_
    obtain ⟨rfl, rfl⟩ := zpr hE
    exact y_vret k128_28 rfl
-- AdjectiveCoupons.left
def f136_87 (K : Nat) (k22 : Int32 → Int32 → Int32 → Int32 → Int32 → zS → Option (Int32 × zS)) (k37 : Int32 → Int32 → Int32 → Int32 → Int32 → Int32 → zS → Option (Int32 × zS)) (x1 : Int32) (x2 : Int32) (x3 : Int32) (x4 : Int32) (x5 : Int32) (x6 : Int32) (g : zS) : Option (Int32 × zS) := k37 x1 x2 x3 x4 x5 (x6 + 1) g
def f136_82 (K : Nat) (k22 : Int32 → Int32 → Int32 → Int32 → Int32 → zS → Option (Int32 × zS)) (k37 : Int32 → Int32 → Int32 → Int32 → Int32 → Int32 → zS → Option (Int32 × zS)) (x1 : Int32) (x2 : Int32) (x3 : Int32) (x5 : Int32) (x6 : Int32) (xs0 : Int32) (g : zS) : Option (Int32 × zS) := f136_87 K k22 k37 x1 (x2 + 1) x3 xs0 x5 x6 g
def f136_70 (K : Nat) (k22 : Int32 → Int32 → Int32 → Int32 → Int32 → zS → Option (Int32 × zS)) (k37 : Int32 → Int32 → Int32 → Int32 → Int32 → Int32 → zS → Option (Int32 × zS)) (x1 : Int32) (x2 : Int32) (x4 : Int32) (x5 : Int32) (x6 : Int32) (xs0 : Int32) (g : zS) : Option (Int32 × zS) := if ¬ x2 = 0 then f136_82 K k22 k37 x1 x2 xs0 x5 x6 x4 g else (f136_82 K k22 k37 x1 x2 xs0 x5 x6 x6 g)
def f136_37 (K : Nat) (k22 : Int32 → Int32 → Int32 → Int32 → Int32 → zS → Option (Int32 × zS)) : Nat → Int32 → Int32 → Int32 → Int32 → Int32 → Int32 → zS → Option (Int32 × zS)
  | 0, _, _, _, _, _, _, _ => none
  | n + 1, x1, x2, x3, x4, x5, x6, g => if (g 4 1) ≤ x6 then k22 x1 x2 x3 x4 (x5 + 1) g else (zbd (f137 K x5 x6 g) fun r161 g160 => if r161 = 0 then f136_87 K k22 (f136_37 K k22 n) x1 x2 x3 x4 x5 x6 g160 else if ¬ x2 = 0 then f136_70 K k22 (f136_37 K k22 n) x1 x2 x4 x5 x6 x3 g160 else (f136_70 K k22 (f136_37 K k22 n) x1 x2 x4 x5 x6 x5 g160))
def f136_22 (K : Nat) : Nat → Int32 → Int32 → Int32 → Int32 → Int32 → zS → Option (Int32 × zS)
  | 0, _, _, _, _, _, _ => none
  | n + 1, x1, x2, x3, x4, x5, g => if (g 4 1) ≤ x5 then if ¬ x1 = 0 then if ¬ x1 = 1 then some (x4, g) else (some (x3, g)) else (some (x2, g)) else (f136_37 K (f136_22 K n) K x1 x2 x3 x4 x5 0 g)
def f136 (K : Nat) (x1 : Int32) (g : zS) : Option (Int32 × zS) := zbd (f12 K x1 0 2 g) fun r170 g169 => if ¬ r170 = 0 then f136_22 K K x1 0 (-1) (-1) 0 g169 else (some ((-3), g169))
theorem F136_87 {L : Nat} {xs : Nat → Int32} {d : Nat} (K : Nat) (k22 : Int32 → Int32 → Int32 → Int32 → Int32 → zS → Option (Int32 × zS)) (hk22 : ∀ (x1 : Int32) (x2 : Int32) (x3 : Int32) (x4 : Int32) (x5 : Int32) (g : zS) (r : Int32) (g' : zS), k22 x1 x2 x3 x4 x5 g = some (r, g') → zG2 L xs (d + 2) zm136 22 [some (.ref 0), some (.int x1), some (.int x2), some (.int x3), some (.int x4), some (.int x5), none] [] g (some (.int r)) g') (k37 : Int32 → Int32 → Int32 → Int32 → Int32 → Int32 → zS → Option (Int32 × zS)) (hk37 : ∀ (x1 : Int32) (x2 : Int32) (x3 : Int32) (x4 : Int32) (x5 : Int32) (x6 : Int32) (g : zS) (r : Int32) (g' : zS), k37 x1 x2 x3 x4 x5 x6 g = some (r, g') → zG2 L xs (d + 2) zm136 37 [some (.ref 0), some (.int x1), some (.int x2), some (.int x3), some (.int x4), some (.int x5), some (.int x6)] [] g (some (.int r)) g') (x1 : Int32) (x2 : Int32) (x3 : Int32) (x4 : Int32) (x5 : Int32) (x6 : Int32) (g : zS) (r : Int32) (g' : zS) (hE : f136_87 K k22 k37 x1 x2 x3 x4 x5 x6 g = some (r, g')) : zG2 L xs (d + 2) zm136 87 [some (.ref 0), some (.int x1), some (.int x2), some (.int x3), some (.int x4), some (.int x5), some (.int x6)] [] g (some (.int r)) g' := by
  unfold f136_87 at hE
  refine y_iinc (v := (x6 + 1)) (ls2 := [some (.ref 0), some (.int x1), some (.int x2), some (.int x3), some (.int x4), some (.int x5), some (.int (x6 + 1))]) k136_87 rfl rfl (by rw [oi_1]) rfl ?_
  refine y_goto (tgt := 37) k136_90 (by decide) ?_
  exact hk37 x1 x2 x3 x4 x5 (x6 + 1) _ _ _ hE
theorem F136_82 {L : Nat} {xs : Nat → Int32} {d : Nat} (K : Nat) (k22 : Int32 → Int32 → Int32 → Int32 → Int32 → zS → Option (Int32 × zS)) (hk22 : ∀ (x1 : Int32) (x2 : Int32) (x3 : Int32) (x4 : Int32) (x5 : Int32) (g : zS) (r : Int32) (g' : zS), k22 x1 x2 x3 x4 x5 g = some (r, g') → zG2 L xs (d + 2) zm136 22 [some (.ref 0), some (.int x1), some (.int x2), some (.int x3), some (.int x4), some (.int x5), none] [] g (some (.int r)) g') (k37 : Int32 → Int32 → Int32 → Int32 → Int32 → Int32 → zS → Option (Int32 × zS)) (hk37 : ∀ (x1 : Int32) (x2 : Int32) (x3 : Int32) (x4 : Int32) (x5 : Int32) (x6 : Int32) (g : zS) (r : Int32) (g' : zS), k37 x1 x2 x3 x4 x5 x6 g = some (r, g') → zG2 L xs (d + 2) zm136 37 [some (.ref 0), some (.int x1), some (.int x2), some (.int x3), some (.int x4), some (.int x5), some (.int x6)] [] g (some (.int r)) g') (x1 : Int32) (x2 : Int32) (x3 : Int32) (x5 : Int32) (x6 : Int32) (xs0 : Int32) (g : zS) (r : Int32) (g' : zS) (hE : f136_82 K k22 k37 x1 x2 x3 x5 x6 xs0 g = some (r, g')) : zG2 L xs (d + 2) zm136 82 [some (.ref 0), some (.int x1), some (.int x2), some (.int x3), none, some (.int x5), some (.int x6)] [.int xs0] g (some (.int r)) g' := by
  unfold f136_82 at hE
  refine y_istore (ls2 := [some (.ref 0), some (.int x1), some (.int x2), some (.int x3), some (.int xs0), some (.int x5), some (.int x6)]) k136_82 rfl (Nat.le_of_ble_eq_true rfl) rfl ?_
  refine y_iinc (v := (x2 + 1)) (ls2 := [some (.ref 0), some (.int x1), some (.int (x2 + 1)), some (.int x3), some (.int xs0), some (.int x5), some (.int x6)]) k136_84 rfl rfl (by rw [oi_1]) rfl ?_
  exact F136_87 K k22 hk22 k37 hk37 x1 (x2 + 1) x3 xs0 x5 x6 _ _ _ hE
theorem F136_70 {L : Nat} {xs : Nat → Int32} {d : Nat} (K : Nat) (k22 : Int32 → Int32 → Int32 → Int32 → Int32 → zS → Option (Int32 × zS)) (hk22 : ∀ (x1 : Int32) (x2 : Int32) (x3 : Int32) (x4 : Int32) (x5 : Int32) (g : zS) (r : Int32) (g' : zS), k22 x1 x2 x3 x4 x5 g = some (r, g') → zG2 L xs (d + 2) zm136 22 [some (.ref 0), some (.int x1), some (.int x2), some (.int x3), some (.int x4), some (.int x5), none] [] g (some (.int r)) g') (k37 : Int32 → Int32 → Int32 → Int32 → Int32 → Int32 → zS → Option (Int32 × zS)) (hk37 : ∀ (x1 : Int32) (x2 : Int32) (x3 : Int32) (x4 : Int32) (x5 : Int32) (x6 : Int32) (g : zS) (r : Int32) (g' : zS), k37 x1 x2 x3 x4 x5 x6 g = some (r, g') → zG2 L xs (d + 2) zm136 37 [some (.ref 0), some (.int x1), some (.int x2), some (.int x3), some (.int x4), some (.int x5), some (.int x6)] [] g (some (.int r)) g') (x1 : Int32) (x2 : Int32) (x4 : Int32) (x5 : Int32) (x6 : Int32) (xs0 : Int32) (g : zS) (r : Int32) (g' : zS) (hE : f136_70 K k22 k37 x1 x2 x4 x5 x6 xs0 g = some (r, g')) : zG2 L xs (d + 2) zm136 70 [some (.ref 0), some (.int x1), some (.int x2), none, some (.int x4), some (.int x5), some (.int x6)] [.int xs0] g (some (.int r)) g' := by
  unfold f136_70 at hE
  refine y_istore_n (ls2 := [some (.ref 0), some (.int x1), some (.int x2), some (.int xs0), some (.int x4), some (.int x5), some (.int x6)]) k136_70 rfl (Nat.le_of_ble_eq_true rfl) rfl ?_
  refine y_iload_n k136_71 rfl ?_
  by_cases c159 : ¬ x2 = 0
  · rw [if_pos c159] at hE
    refine y_ifT (tgt := 80) k136_72 (by decide) c159 ?_
    refine y_iload k136_80 rfl ?_
    exact y_weak (ls0 := [some (.ref 0), some (.int x1), some (.int x2), some (.int xs0), none, some (.int x5), some (.int x6)]) ⟨rfl, rfl, rfl, rfl, rfl, rfl, rfl, trivial⟩ (F136_82 K k22 hk22 k37 hk37 x1 x2 xs0 x5 x6 x4 _ _ _ hE)
  · rw [if_neg c159] at hE
    refine y_ifF 80 k136_72 (by decide) c159 ?_
    refine y_iload k136_75 rfl ?_
    refine y_goto (tgt := 82) k136_77 (by decide) ?_
    exact y_weak (ls0 := [some (.ref 0), some (.int x1), some (.int x2), some (.int xs0), none, some (.int x5), some (.int x6)]) ⟨rfl, rfl, rfl, rfl, rfl, rfl, rfl, trivial⟩ (F136_82 K k22 hk22 k37 hk37 x1 x2 xs0 x5 x6 x6 _ _ _ hE)
theorem F136_37 {L : Nat} {xs : Nat → Int32} {d : Nat} (K : Nat) (k22 : Int32 → Int32 → Int32 → Int32 → Int32 → zS → Option (Int32 × zS)) (hk22 : ∀ (x1 : Int32) (x2 : Int32) (x3 : Int32) (x4 : Int32) (x5 : Int32) (g : zS) (r : Int32) (g' : zS), k22 x1 x2 x3 x4 x5 g = some (r, g') → zG2 L xs (d + 2) zm136 22 [some (.ref 0), some (.int x1), some (.int x2), some (.int x3), some (.int x4), some (.int x5), none] [] g (some (.int r)) g') : ∀ (n : Nat) (x1 : Int32) (x2 : Int32) (x3 : Int32) (x4 : Int32) (x5 : Int32) (x6 : Int32) (g : zS) (r : Int32) (g' : zS) (hE : f136_37 K k22 n x1 x2 x3 x4 x5 x6 g = some (r, g')), zG2 L xs (d + 2) zm136 37 [some (.ref 0), some (.int x1), some (.int x2), some (.int x3), some (.int x4), some (.int x5), some (.int x6)] [] g (some (.int r)) g' := by
  intro n
  induction n with
  | zero => intro x1 x2 x3 x4 x5 x6  g r g' hE; cases hE
  | succ n ih =>
    intro x1 x2 x3 x4 x5 x6  g r g' hE
    rw [f136_37] at hE
    refine y_iload k136_37 rfl ?_
    refine y_aload_n k136_39 rfl rfl ?_
    refine y_getR k136_40 fk_0_19 sh0 rfl ?_
    refine y_getI k136_43 fk_0_88 sh4 rfl ?_
    by_cases c165 : (g 4 1) ≤ x6
    · rw [if_pos c165] at hE
      refine y_icT (tgt := 93) k136_46 (by decide) c165 ?_
      refine y_iinc (v := (x5 + 1)) (ls2 := [some (.ref 0), some (.int x1), some (.int x2), some (.int x3), some (.int x4), some (.int (x5 + 1)), some (.int x6)]) k136_93 rfl rfl (by rw [oi_1]) rfl ?_
      refine y_goto (tgt := 22) k136_96 (by decide) ?_
      exact y_weak (ls0 := [some (.ref 0), some (.int x1), some (.int x2), some (.int x3), some (.int x4), some (.int (x5 + 1)), none]) ⟨rfl, rfl, rfl, rfl, rfl, rfl, rfl, trivial⟩ (hk22 x1 x2 x3 x4 (x5 + 1) _ _ _ hE)
    · rw [if_neg c165] at hE
      refine y_icF 93 k136_46 (by decide) c165 ?_
      refine y_aload_n k136_49 rfl rfl ?_
      refine y_iload k136_50 rfl ?_
      refine y_iload k136_52 rfl ?_
      obtain ⟨r161, g160, hc162, hE⟩ := zbd_some hE
      refine y_invVi (j := 137) (As := [.int x5, .int x6]) (rest := []) (N := zm137) (F137 K x5 x6 _ r161 g160 hc162 (d + 0)) k136_54 lk_0_299 zm137_get na137 rfl (Nat.le_of_ble_eq_true rfl) sh0 (by decide) rfl ?_
      by_cases c164 : r161 = 0
      · rw [if_pos c164] at hE
        refine y_ifT (tgt := 87) k136_57 (by decide) c164 ?_
        exact F136_87 K k22 hk22 (f136_37 K k22 n) ih x1 x2 x3 x4 x5 x6 _ _ _ hE
      · rw [if_neg c164] at hE
        refine y_ifF 87 k136_57 (by decide) c164 ?_
        refine y_iload_n k136_60 rfl ?_
        by_cases c163 : ¬ x2 = 0
        · rw [if_pos c163] at hE
          refine y_ifT (tgt := 69) k136_61 (by decide) c163 ?_
          refine y_iload_n k136_69 rfl ?_
          exact y_weak (ls0 := [some (.ref 0), some (.int x1), some (.int x2), none, some (.int x4), some (.int x5), some (.int x6)]) ⟨rfl, rfl, rfl, rfl, rfl, rfl, rfl, trivial⟩ (F136_70 K k22 hk22 (f136_37 K k22 n) ih x1 x2 x4 x5 x6 x3 _ _ _ hE)
        · rw [if_neg c163] at hE
          refine y_ifF 69 k136_61 (by decide) c163 ?_
          refine y_iload k136_64 rfl ?_
          refine y_goto (tgt := 70) k136_66 (by decide) ?_
          exact y_weak (ls0 := [some (.ref 0), some (.int x1), some (.int x2), none, some (.int x4), some (.int x5), some (.int x6)]) ⟨rfl, rfl, rfl, rfl, rfl, rfl, rfl, trivial⟩ (F136_70 K k22 hk22 (f136_37 K k22 n) ih x1 x2 x4 x5 x6 x5 _ _ _ hE)
theorem F136_22 {L : Nat} {xs : Nat → Int32} {d : Nat} (K : Nat) : ∀ (n : Nat) (x1 : Int32) (x2 : Int32) (x3 : Int32) (x4 : Int32) (x5 : Int32) (g : zS) (r : Int32) (g' : zS) (hE : f136_22 K n x1 x2 x3 x4 x5 g = some (r, g')), zG2 L xs (d + 2) zm136 22 [some (.ref 0), some (.int x1), some (.int x2), some (.int x3), some (.int x4), some (.int x5), none] [] g (some (.int r)) g' := by
  intro n
  induction n with
  | zero => intro x1 x2 x3 x4 x5  g r g' hE; cases hE
  | succ n ih =>
    intro x1 x2 x3 x4 x5  g r g' hE
    rw [f136_22] at hE
    refine y_iload k136_22 rfl ?_
    refine y_aload_n k136_24 rfl rfl ?_
    refine y_getR k136_25 fk_0_19 sh0 rfl ?_
    refine y_getI k136_28 fk_0_88 sh4 rfl ?_
    by_cases c168 : (g 4 1) ≤ x5
    · rw [if_pos c168] at hE
      refine y_icT (tgt := 99) k136_31 (by decide) c168 ?_
      refine y_iload_n k136_99 rfl ?_
      by_cases c167 : ¬ x1 = 0
      · rw [if_pos c167] at hE
        refine y_ifT (tgt := 105) k136_100 (by decide) c167 ?_
        refine y_iload_n k136_105 rfl ?_
        refine y_iconst (v := 1) k136_106 oi_1 ?_
        by_cases c166 : ¬ x1 = 1
        · rw [if_pos c166] at hE
          refine y_icT (tgt := 114) k136_107 (by decide) c166 ?_
          refine y_iload k136_114 rfl ?_
          obtain ⟨rfl, rfl⟩ := zpr hE
          exact y_iret k136_116 rfl
        · rw [if_neg c166] at hE
          refine y_icF 114 k136_107 (by decide) c166 ?_
          refine y_iload_n k136_110 rfl ?_
          refine y_goto (tgt := 116) k136_111 (by decide) ?_
          obtain ⟨rfl, rfl⟩ := zpr hE
          exact y_iret k136_116 rfl
      · rw [if_neg c167] at hE
        refine y_ifF 105 k136_100 (by decide) c167 ?_
        refine y_iload_n k136_103 rfl ?_
        obtain ⟨rfl, rfl⟩ := zpr hE
        exact y_iret k136_104 rfl
    · rw [if_neg c168] at hE
      refine y_icF 99 k136_31 (by decide) c168 ?_
      refine y_iconst (v := 0) k136_34 oi_0 ?_
      refine y_istore (ls2 := [some (.ref 0), some (.int x1), some (.int x2), some (.int x3), some (.int x4), some (.int x5), some (.int 0)]) k136_35 rfl (Nat.le_of_ble_eq_true rfl) rfl ?_
      exact F136_37 K (f136_22 K n) ih K x1 x2 x3 x4 x5 0 _ _ _ hE
theorem F136 {L : Nat} {xs : Nat → Int32} (K : Nat) (x1 : Int32) (g : zS) (r : Int32) (g' : zS) (hE : f136 K x1 g = some (r, g')) (d : Nat) : zE2 L xs (d + 3) 136 [.ref 0, .int x1] g (some (.int r)) g' := by
  refine y_ev (n := 0) (d := d + 2) (ls := [some (.ref 0), some (.int x1), none, none, none, none, none]) zm136_get (by decide) (Nat.le_of_ble_eq_true rfl) rfl ?_
  unfold f136 at hE
  refine y_iload_n k136_0 rfl ?_
  refine y_iconst (v := 0) k136_1 oi_0 ?_
  refine y_iconst (v := 2) k136_2 oi_2 ?_
  obtain ⟨r170, g169, hc171, hE⟩ := zbd_some hE
  refine y_invSi (j := 12) (As := [.int x1, .int 0, .int 2]) (rest := []) (N := zm12) (F12 K x1 0 2 _ r170 g169 hc171 (d + 1)) k136_3 lk_0_68 zm12_get na12 rfl (Nat.le_of_ble_eq_true rfl) ?_
  by_cases c172 : ¬ r170 = 0
  · rw [if_pos c172] at hE
    refine y_ifT (tgt := 12) k136_6 (by decide) c172 ?_
    refine y_iconst (v := 0) k136_12 oi_0 ?_
    refine y_istore_n (ls2 := [some (.ref 0), some (.int x1), some (.int 0), none, none, none, none]) k136_13 rfl (Nat.le_of_ble_eq_true rfl) rfl ?_
    refine y_iconst (v := (-1)) k136_14 oi_m1 ?_
    refine y_istore_n (ls2 := [some (.ref 0), some (.int x1), some (.int 0), some (.int (-1)), none, none, none]) k136_15 rfl (Nat.le_of_ble_eq_true rfl) rfl ?_
    refine y_iconst (v := (-1)) k136_16 oi_m1 ?_
    refine y_istore (ls2 := [some (.ref 0), some (.int x1), some (.int 0), some (.int (-1)), some (.int (-1)), none, none]) k136_17 rfl (Nat.le_of_ble_eq_true rfl) rfl ?_
    refine y_iconst (v := 0) k136_19 oi_0 ?_
    refine y_istore (ls2 := [some (.ref 0), some (.int x1), some (.int 0), some (.int (-1)), some (.int (-1)), some (.int 0), none]) k136_20 rfl (Nat.le_of_ble_eq_true rfl) rfl ?_
    exact F136_22 K K x1 0 (-1) (-1) 0 _ _ _ hE
  · rw [if_neg c172] at hE
    refine y_ifF 12 k136_6 (by decide) c172 ?_
    refine y_bipush (v := (-3)) k136_9 b8_m3 ?_
    obtain ⟨rfl, rfl⟩ := zpr hE
    exact y_iret k136_11 rfl
-- AdjectiveCoupons$State.balance
def f139_4 (K : Nat) : Nat → Nat → Int32 → Int32 → Int32 → zS → Option (Int32 × zS)
  | 0, _, _, _, _, _ => none
  | n + 1, o0, x1, x2, x3, g => if 4 ≤ x3 then some (x2, g) else (zbd (f90 K o0 x3 x1 g) fun r123 g122 => zbd (f90 K o0 x1 x3 g122) fun r126 g125 => (f139_4 K n) o0 x1 (x2 + (r123 - r126)) (x3 + 1) g125)
def f139 (K : Nat) (o0 : Nat) (x1 : Int32) (g : zS) : Option (Int32 × zS) := f139_4 K K o0 x1 0 0 g
theorem F139_4 {L : Nat} {xs : Nat → Int32} {d : Nat} (K : Nat) : ∀ (n : Nat) (o0 : Nat) (x1 : Int32) (x2 : Int32) (x3 : Int32) (h0 : zState o0) (g : zS) (r : Int32) (g' : zS) (hE : f139_4 K n o0 x1 x2 x3 g = some (r, g')), zG2 L xs (d + 2) zm139 4 [some (.ref o0), some (.int x1), some (.int x2), some (.int x3)] [] g (some (.int r)) g' := by
  intro n
  induction n with
  | zero => intro o0 x1 x2 x3 h0 g r g' hE; cases hE
  | succ n ih =>
    intro o0 x1 x2 x3 h0 g r g' hE
    rw [f139_4] at hE
    refine y_iload_n k139_4 rfl ?_
    refine y_iconst (v := 4) k139_5 oi_4 ?_
    by_cases c128 : 4 ≤ x3
    · rw [if_pos c128] at hE
      refine y_icT (tgt := 31) k139_6 (by decide) c128 ?_
      refine y_iload_n k139_31 rfl ?_
      obtain ⟨rfl, rfl⟩ := zpr hE
      exact y_iret k139_32 rfl
    · rw [if_neg c128] at hE
      refine y_icF 31 k139_6 (by decide) c128 ?_
      refine y_iload_n k139_9 rfl ?_
      refine y_aload_n k139_10 rfl rfl ?_
      refine y_iload_n k139_11 rfl ?_
      refine y_iload_n k139_12 rfl ?_
      obtain ⟨r123, g122, hc124, hE⟩ := zbd_some hE
      refine y_invVi (j := 90) (As := [.int x3, .int x1]) (rest := [.int x2]) (N := zm90) (F90 K o0 x3 x1 h0 _ r123 g122 hc124 (d + 0)) k139_13 lk_4_69 zm90_get na90 rfl (Nat.le_of_ble_eq_true rfl) h0.1 (by decide) rfl ?_
      refine y_aload_n k139_16 rfl rfl ?_
      refine y_iload_n k139_17 rfl ?_
      refine y_iload_n k139_18 rfl ?_
      obtain ⟨r126, g125, hc127, hE⟩ := zbd_some hE
      refine y_invVi (j := 90) (As := [.int x1, .int x3]) (rest := [.int r123, .int x2]) (N := zm90) (F90 K o0 x1 x3 h0 _ r126 g125 hc127 (d + 0)) k139_19 lk_4_69 zm90_get na90 rfl (Nat.le_of_ble_eq_true rfl) h0.1 (by decide) rfl ?_
      refine y_isub k139_22 ?_
      refine y_iadd k139_23 ?_
      refine y_istore_n (ls2 := [some (.ref o0), some (.int x1), some (.int (x2 + (r123 - r126))), some (.int x3)]) k139_24 rfl (Nat.le_of_ble_eq_true rfl) rfl ?_
      refine y_iinc (v := (x3 + 1)) (ls2 := [some (.ref o0), some (.int x1), some (.int (x2 + (r123 - r126))), some (.int (x3 + 1))]) k139_25 rfl rfl (by rw [oi_1]) rfl ?_
      refine y_goto (tgt := 4) k139_28 (by decide) ?_
      exact ih o0 x1 (x2 + (r123 - r126)) (x3 + 1) h0 _ _ _ hE
theorem F139 {L : Nat} {xs : Nat → Int32} (K : Nat) (o0 : Nat) (x1 : Int32) (h0 : zState o0) (g : zS) (r : Int32) (g' : zS) (hE : f139 K o0 x1 g = some (r, g')) (d : Nat) : zE2 L xs (d + 3) 139 [.ref o0, .int x1] g (some (.int r)) g' := by
  refine y_ev (n := 0) (d := d + 2) (ls := [some (.ref o0), some (.int x1), none, none]) zm139_get (by decide) (Nat.le_of_ble_eq_true rfl) rfl ?_
  unfold f139 at hE
  refine y_iconst (v := 0) k139_0 oi_0 ?_
  refine y_istore_n (ls2 := [some (.ref o0), some (.int x1), some (.int 0), none]) k139_1 rfl (Nat.le_of_ble_eq_true rfl) rfl ?_
  refine y_iconst (v := 0) k139_2 oi_0 ?_
  refine y_istore_n (ls2 := [some (.ref o0), some (.int x1), some (.int 0), some (.int 0)]) k139_3 rfl (Nat.le_of_ble_eq_true rfl) rfl ?_
  exact F139_4 K K o0 x1 0 0 h0 _ _ _ hE
-- AdjectiveCoupons$Text.readChange
def f37 (K : Nat) (o1 : Nat) (g : zS) : Option (Int32 × zS) := zbd (f38 K ((g o1 0) - 1) g) fun r126 g125 => if ¬ r126 = (-1) then zbd (f20 K  g125) fun _ g128 => zbd (f38 K 4 g128) fun r132 g131 => if ¬ r132 = (-1) then zbd (f20 K  g131) fun _ g134 => zbd (f38 K 99 g134) fun r138 g137 => if ¬ r138 = (-1) then zbd (f20 K  g137) fun _ g140 => zbd (f39 K o1 r126 r132 r138 g140) fun _ g143 => some (1, g143) else (some (0, g137)) else (some (0, g131)) else (some (0, g125))
theorem F37 {L : Nat} {xs : Nat → Int32} (K : Nat) (o1 : Nat) (h1 : zTold o1) (g : zS) (r : Int32) (g' : zS) (hE : f37 K o1 g = some (r, g')) (d : Nat) : zE2 L xs (d + 4) 37 [.ref 1, .ref o1] g (some (.int r)) g' := by
  refine y_ev (n := 0) (d := d + 3) (ls := [some (.ref 1), some (.ref o1), none, none, none]) zm37_get (by decide) (Nat.le_of_ble_eq_true rfl) rfl ?_
  unfold f37 at hE
  refine y_aload_n k37_0 rfl rfl ?_
  refine y_aload_n k37_1 rfl rfl ?_
  refine y_getI k37_2 fk_1_70 h1.1 rfl ?_
  refine y_iconst (v := 1) k37_5 oi_1 ?_
  refine y_isub k37_6 ?_
  obtain ⟨r126, g125, hc127, hE⟩ := zbd_some hE
  refine y_invVi (j := 38) (As := [.int ((g o1 0) - 1)]) (rest := []) (N := zm38) (F38 K ((g o1 0) - 1) _ r126 g125 hc127 (d + 0)) k37_7 lk_1_64 zm38_get na38 rfl (Nat.le_of_ble_eq_true rfl) sh1 (by decide) rfl ?_
  refine y_istore_n (ls2 := [some (.ref 1), some (.ref o1), some (.int r126), none, none]) k37_10 rfl (Nat.le_of_ble_eq_true rfl) rfl ?_
  refine y_iload_n k37_11 rfl ?_
  refine y_iconst (v := (-1)) k37_12 oi_m1 ?_
  by_cases c148 : ¬ r126 = (-1)
  · rw [if_pos c148] at hE
    refine y_icT (tgt := 18) k37_13 (by decide) c148 ?_
    refine y_aload_n k37_18 rfl rfl ?_
    obtain ⟨u129, g128, hc130, hE⟩ := zbd_some hE
    refine y_invVv (j := 20) (As := []) (rest := []) (N := zm20) (F20 K  _ u129 g128 hc130 (d + 0)) k37_19 lk_1_31 zm20_get na20 rfl (Nat.le_of_ble_eq_true rfl) sh1 (by decide) rfl ?_
    refine y_aload_n k37_22 rfl rfl ?_
    refine y_iconst (v := 4) k37_23 oi_4 ?_
    obtain ⟨r132, g131, hc133, hE⟩ := zbd_some hE
    refine y_invVi (j := 38) (As := [.int 4]) (rest := []) (N := zm38) (F38 K 4 _ r132 g131 hc133 (d + 0)) k37_24 lk_1_64 zm38_get na38 rfl (Nat.le_of_ble_eq_true rfl) sh1 (by decide) rfl ?_
    refine y_istore_n (ls2 := [some (.ref 1), some (.ref o1), some (.int r126), some (.int r132), none]) k37_27 rfl (Nat.le_of_ble_eq_true rfl) rfl ?_
    refine y_iload_n k37_28 rfl ?_
    refine y_iconst (v := (-1)) k37_29 oi_m1 ?_
    by_cases c147 : ¬ r132 = (-1)
    · rw [if_pos c147] at hE
      refine y_icT (tgt := 35) k37_30 (by decide) c147 ?_
      refine y_aload_n k37_35 rfl rfl ?_
      obtain ⟨u135, g134, hc136, hE⟩ := zbd_some hE
      refine y_invVv (j := 20) (As := []) (rest := []) (N := zm20) (F20 K  _ u135 g134 hc136 (d + 0)) k37_36 lk_1_31 zm20_get na20 rfl (Nat.le_of_ble_eq_true rfl) sh1 (by decide) rfl ?_
      refine y_aload_n k37_39 rfl rfl ?_
      refine y_bipush (v := 99) k37_40 b8_99 ?_
      obtain ⟨r138, g137, hc139, hE⟩ := zbd_some hE
      refine y_invVi (j := 38) (As := [.int 99]) (rest := []) (N := zm38) (F38 K 99 _ r138 g137 hc139 (d + 0)) k37_42 lk_1_64 zm38_get na38 rfl (Nat.le_of_ble_eq_true rfl) sh1 (by decide) rfl ?_
      refine y_istore (ls2 := [some (.ref 1), some (.ref o1), some (.int r126), some (.int r132), some (.int r138)]) k37_45 rfl (Nat.le_of_ble_eq_true rfl) rfl ?_
      refine y_iload k37_47 rfl ?_
      refine y_iconst (v := (-1)) k37_49 oi_m1 ?_
      by_cases c146 : ¬ r138 = (-1)
      · rw [if_pos c146] at hE
        refine y_icT (tgt := 55) k37_50 (by decide) c146 ?_
        refine y_aload_n k37_55 rfl rfl ?_
        obtain ⟨u141, g140, hc142, hE⟩ := zbd_some hE
        refine y_invVv (j := 20) (As := []) (rest := []) (N := zm20) (F20 K  _ u141 g140 hc142 (d + 0)) k37_56 lk_1_31 zm20_get na20 rfl (Nat.le_of_ble_eq_true rfl) sh1 (by decide) rfl ?_
        refine y_aload_n k37_59 rfl rfl ?_
        refine y_iload_n k37_60 rfl ?_
        refine y_iload_n k37_61 rfl ?_
        refine y_iload k37_62 rfl ?_
        obtain ⟨u144, g143, hc145, hE⟩ := zbd_some hE
        refine y_invVv (j := 39) (As := [.int r126, .int r132, .int r138]) (rest := []) (N := zm39) (F39 K o1 r126 r132 r138 h1 _ u144 g143 hc145 (d + 1)) k37_64 lk_1_73 zm39_get na39 rfl (Nat.le_of_ble_eq_true rfl) h1.1 (by decide) rfl ?_
        refine y_iconst (v := 1) k37_67 oi_1 ?_
        obtain ⟨rfl, rfl⟩ := zpr hE
        exact y_zret k37_68 rfl (by decide)
      · rw [if_neg c146] at hE
        refine y_icF 55 k37_50 (by decide) c146 ?_
        refine y_iconst (v := 0) k37_53 oi_0 ?_
        obtain ⟨rfl, rfl⟩ := zpr hE
        exact y_zret k37_54 rfl (by decide)
    · rw [if_neg c147] at hE
      refine y_icF 35 k37_30 (by decide) c147 ?_
      refine y_iconst (v := 0) k37_33 oi_0 ?_
      obtain ⟨rfl, rfl⟩ := zpr hE
      exact y_zret k37_34 rfl (by decide)
  · rw [if_neg c148] at hE
    refine y_icF 18 k37_13 (by decide) c148 ?_
    refine y_iconst (v := 0) k37_16 oi_0 ?_
    obtain ⟨rfl, rfl⟩ := zpr hE
    exact y_zret k37_17 rfl (by decide)
-- AdjectiveCoupons.word
def f47 (K : Nat) (x1 : Int32) (x2 : Int32) (g : zS) : Option (Int32 × zS) := zbd (f48 K x1 g) fun r122 g121 => if ¬ r122 = 0 then if x2 = 0 then zbd (f49 K 4 x1 (g121 34 0) g121) fun r126 g125 => some (r126, g125) else if x2 = 1 then zbd (f21 K 7 x1 g121) fun r130 g129 => some (r130, g129) else if x2 = 2 then zbd (f21 K 5 x1 g121) fun r134 g133 => some (r134, g133) else if x2 = 3 then zbd (f50 K 34 x1 g121) fun r138 g137 => some (r138, g137) else (some ((-3), g121)) else (some ((-2), g121))
theorem F47 {L : Nat} {xs : Nat → Int32} (K : Nat) (x1 : Int32) (x2 : Int32) (g : zS) (r : Int32) (g' : zS) (hE : f47 K x1 x2 g = some (r, g')) (d : Nat) : zE2 L xs (d + 4) 47 [.ref 0, .int x1, .int x2] g (some (.int r)) g' := by
  refine y_ev (n := 0) (d := d + 3) (ls := [some (.ref 0), some (.int x1), some (.int x2)]) zm47_get (by decide) (Nat.le_of_ble_eq_true rfl) rfl ?_
  unfold f47 at hE
  refine y_aload_n k47_0 rfl rfl ?_
  refine y_iload_n k47_1 rfl ?_
  obtain ⟨r122, g121, hc123, hE⟩ := zbd_some hE
  refine y_invVi (j := 48) (As := [.int x1]) (rest := []) (N := zm48) (F48 K x1 _ r122 g121 hc123 (d + 1)) k47_2 lk_0_108 zm48_get na48 rfl (Nat.le_of_ble_eq_true rfl) sh0 (by decide) rfl ?_
  by_cases c140 : ¬ r122 = 0
  · rw [if_pos c140] at hE
    refine y_ifT (tgt := 11) k47_5 (by decide) c140 ?_
    refine y_iload_n k47_11 rfl ?_
    by_cases c124 : x2 = 0
    · rw [if_pos c124] at hE
      refine y_tsw (tgt := 44) (off := 32) 0 k47_12 c124 (by decide) (by decide) (by decide) (by decide) ?_
      refine y_aload_n k47_44 rfl rfl ?_
      refine y_getR k47_45 fk_0_19 sh0 rfl ?_
      refine y_iload_n k47_48 rfl ?_
      refine y_aload_n k47_49 rfl rfl ?_
      refine y_getR k47_50 fk_0_29 sh0 rfl ?_
      refine y_getI k47_53 fk_0_111 sh34 rfl ?_
      obtain ⟨r126, g125, hc127, hE⟩ := zbd_some hE
      refine y_invVi (j := 49) (As := [.int x1, .int (g121 34 0)]) (rest := []) (N := zm49) (F49 K 4 x1 (g121 34 0) tol4 _ r126 g125 hc127 (d + 1)) k47_56 lk_0_114 zm49_get na49 rfl (Nat.le_of_ble_eq_true rfl) sh4 (by decide) rfl ?_
      obtain ⟨rfl, rfl⟩ := zpr hE
      exact y_iret k47_59 rfl
    · rw [if_neg c124] at hE
      by_cases c128 : x2 = 1
      · rw [if_pos c128] at hE
        refine y_tsw (tgt := 60) (off := 48) 1 k47_12 c128 (by decide) (by decide) (by decide) (by decide) ?_
        refine y_aload_n k47_60 rfl rfl ?_
        refine y_getR k47_61 fk_0_19 sh0 rfl ?_
        refine y_getR k47_64 fk_0_118 sh4 rfl ?_
        refine y_iload_n k47_67 rfl ?_
        obtain ⟨r130, g129, hc131, hE⟩ := zbd_some hE
        refine y_invVi (j := 21) (As := [.int x1]) (rest := []) (N := zm21) (F21 K 7 x1 rw7 _ r130 g129 hc131 (d + 2)) k47_68 lk_0_122 zm21_get na21 rfl (Nat.le_of_ble_eq_true rfl) sh7 (by decide) rfl ?_
        obtain ⟨rfl, rfl⟩ := zpr hE
        exact y_iret k47_71 rfl
      · rw [if_neg c128] at hE
        by_cases c132 : x2 = 2
        · rw [if_pos c132] at hE
          refine y_tsw (tgt := 72) (off := 60) 2 k47_12 c132 (by decide) (by decide) (by decide) (by decide) ?_
          refine y_aload_n k47_72 rfl rfl ?_
          refine y_getR k47_73 fk_0_19 sh0 rfl ?_
          refine y_getR k47_76 fk_0_128 sh4 rfl ?_
          refine y_iload_n k47_79 rfl ?_
          obtain ⟨r134, g133, hc135, hE⟩ := zbd_some hE
          refine y_invVi (j := 21) (As := [.int x1]) (rest := []) (N := zm21) (F21 K 5 x1 rw5 _ r134 g133 hc135 (d + 2)) k47_80 lk_0_122 zm21_get na21 rfl (Nat.le_of_ble_eq_true rfl) sh5 (by decide) rfl ?_
          obtain ⟨rfl, rfl⟩ := zpr hE
          exact y_iret k47_83 rfl
        · rw [if_neg c132] at hE
          by_cases c136 : x2 = 3
          · rw [if_pos c136] at hE
            refine y_tsw (tgt := 84) (off := 72) 3 k47_12 c136 (by decide) (by decide) (by decide) (by decide) ?_
            refine y_aload_n k47_84 rfl rfl ?_
            refine y_getR k47_85 fk_0_29 sh0 rfl ?_
            refine y_iload_n k47_88 rfl ?_
            obtain ⟨r138, g137, hc139, hE⟩ := zbd_some hE
            refine y_invVi (j := 50) (As := [.int x1]) (rest := []) (N := zm50) (F50 K 34 x1 stt34 _ r138 g137 hc139 (d + 0)) k47_89 lk_0_131 zm50_get na50 rfl (Nat.le_of_ble_eq_true rfl) sh34 (by decide) rfl ?_
            obtain ⟨rfl, rfl⟩ := zpr hE
            exact y_iret k47_92 rfl
          · rw [if_neg c136] at hE
            have w12 : x2.toInt < 0 ∨ 3 < x2.toInt := by
              have e0 := lv_neT (a := 0) c124 (by decide)
              have e1 := lv_neT (a := 1) c128 (by decide)
              have e2 := lv_neT (a := 2) c132 (by decide)
              have e3 := lv_neT (a := 3) c136 (by decide)
              omega
            refine y_tswD (tgt := 93) k47_12 w12 (by decide) ?_
            refine y_bipush (v := (-3)) k47_93 b8_m3 ?_
            obtain ⟨rfl, rfl⟩ := zpr hE
            exact y_iret k47_95 rfl
  · rw [if_neg c140] at hE
    refine y_ifF 11 k47_5 (by decide) c140 ?_
    refine y_bipush (v := (-2)) k47_8 b8_m2 ?_
    obtain ⟨rfl, rfl⟩ := zpr hE
    exact y_iret k47_10 rfl
-- AdjectiveCoupons.one
def f52 (K : Nat) (x1 : Int32) (x2 : Int32) (g : zS) : Option (Int32 × zS) := zbd (f53 K x1 g) fun r134 g133 => if ¬ r134 = 0 then if x2 = 0 then zbd (f54 K 4 x1 g133) fun r138 g137 => some (r138, g137) else if x2 = 1 then zbd (f21 K 35 x1 g133) fun r142 g141 => some (r142, g141) else if x2 = 2 then zbd (f21 K 37 x1 g133) fun r146 g145 => some (r146, g145) else if x2 = 3 then zbd (f21 K 39 x1 g133) fun r150 g149 => some (r150, g149) else if x2 = 4 then zbd (f21 K 41 x1 g133) fun r154 g153 => some (r154, g153) else if x2 = 5 then zbd (f55 K 34 x1 g133) fun r158 g157 => some (r158, g157) else if x2 = 6 then zbd (f21 K 11 x1 g133) fun r162 g161 => some (r162, g161) else (some ((-3), g133)) else (some ((-2), g133))
theorem F52 {L : Nat} {xs : Nat → Int32} (K : Nat) (x1 : Int32) (x2 : Int32) (g : zS) (r : Int32) (g' : zS) (hE : f52 K x1 x2 g = some (r, g')) (d : Nat) : zE2 L xs (d + 4) 52 [.ref 0, .int x1, .int x2] g (some (.int r)) g' := by
  refine y_ev (n := 0) (d := d + 3) (ls := [some (.ref 0), some (.int x1), some (.int x2)]) zm52_get (by decide) (Nat.le_of_ble_eq_true rfl) rfl ?_
  unfold f52 at hE
  refine y_aload_n k52_0 rfl rfl ?_
  refine y_iload_n k52_1 rfl ?_
  obtain ⟨r134, g133, hc135, hE⟩ := zbd_some hE
  refine y_invVi (j := 53) (As := [.int x1]) (rest := []) (N := zm53) (F53 K x1 _ r134 g133 hc135 (d + 1)) k52_2 lk_0_134 zm53_get na53 rfl (Nat.le_of_ble_eq_true rfl) sh0 (by decide) rfl ?_
  by_cases c164 : ¬ r134 = 0
  · rw [if_pos c164] at hE
    refine y_ifT (tgt := 11) k52_5 (by decide) c164 ?_
    refine y_iload_n k52_11 rfl ?_
    by_cases c136 : x2 = 0
    · rw [if_pos c136] at hE
      refine y_tsw (tgt := 56) (off := 44) 0 k52_12 c136 (by decide) (by decide) (by decide) (by decide) ?_
      refine y_aload_n k52_56 rfl rfl ?_
      refine y_getR k52_57 fk_0_19 sh0 rfl ?_
      refine y_iload_n k52_60 rfl ?_
      obtain ⟨r138, g137, hc139, hE⟩ := zbd_some hE
      refine y_invVi (j := 54) (As := [.int x1]) (rest := []) (N := zm54) (F54 K 4 x1 tol4 _ r138 g137 hc139 (d + 1)) k52_61 lk_0_137 zm54_get na54 rfl (Nat.le_of_ble_eq_true rfl) sh4 (by decide) rfl ?_
      obtain ⟨rfl, rfl⟩ := zpr hE
      exact y_iret k52_64 rfl
    · rw [if_neg c136] at hE
      by_cases c140 : x2 = 1
      · rw [if_pos c140] at hE
        refine y_tsw (tgt := 65) (off := 53) 1 k52_12 c140 (by decide) (by decide) (by decide) (by decide) ?_
        refine y_aload_n k52_65 rfl rfl ?_
        refine y_getR k52_66 fk_0_29 sh0 rfl ?_
        refine y_getR k52_69 fk_0_140 sh34 rfl ?_
        refine y_iload_n k52_72 rfl ?_
        obtain ⟨r142, g141, hc143, hE⟩ := zbd_some hE
        refine y_invVi (j := 21) (As := [.int x1]) (rest := []) (N := zm21) (F21 K 35 x1 rw35 _ r142 g141 hc143 (d + 2)) k52_73 lk_0_122 zm21_get na21 rfl (Nat.le_of_ble_eq_true rfl) sh35 (by decide) rfl ?_
        obtain ⟨rfl, rfl⟩ := zpr hE
        exact y_iret k52_76 rfl
      · rw [if_neg c140] at hE
        by_cases c144 : x2 = 2
        · rw [if_pos c144] at hE
          refine y_tsw (tgt := 77) (off := 65) 2 k52_12 c144 (by decide) (by decide) (by decide) (by decide) ?_
          refine y_aload_n k52_77 rfl rfl ?_
          refine y_getR k52_78 fk_0_29 sh0 rfl ?_
          refine y_getR k52_81 fk_0_143 sh34 rfl ?_
          refine y_iload_n k52_84 rfl ?_
          obtain ⟨r146, g145, hc147, hE⟩ := zbd_some hE
          refine y_invVi (j := 21) (As := [.int x1]) (rest := []) (N := zm21) (F21 K 37 x1 rw37 _ r146 g145 hc147 (d + 2)) k52_85 lk_0_122 zm21_get na21 rfl (Nat.le_of_ble_eq_true rfl) sh37 (by decide) rfl ?_
          obtain ⟨rfl, rfl⟩ := zpr hE
          exact y_iret k52_88 rfl
        · rw [if_neg c144] at hE
          by_cases c148 : x2 = 3
          · rw [if_pos c148] at hE
            refine y_tsw (tgt := 89) (off := 77) 3 k52_12 c148 (by decide) (by decide) (by decide) (by decide) ?_
            refine y_aload_n k52_89 rfl rfl ?_
            refine y_getR k52_90 fk_0_29 sh0 rfl ?_
            refine y_getR k52_93 fk_0_146 sh34 rfl ?_
            refine y_iload_n k52_96 rfl ?_
            obtain ⟨r150, g149, hc151, hE⟩ := zbd_some hE
            refine y_invVi (j := 21) (As := [.int x1]) (rest := []) (N := zm21) (F21 K 39 x1 rw39 _ r150 g149 hc151 (d + 2)) k52_97 lk_0_122 zm21_get na21 rfl (Nat.le_of_ble_eq_true rfl) sh39 (by decide) rfl ?_
            obtain ⟨rfl, rfl⟩ := zpr hE
            exact y_iret k52_100 rfl
          · rw [if_neg c148] at hE
            by_cases c152 : x2 = 4
            · rw [if_pos c152] at hE
              refine y_tsw (tgt := 101) (off := 89) 4 k52_12 c152 (by decide) (by decide) (by decide) (by decide) ?_
              refine y_aload_n k52_101 rfl rfl ?_
              refine y_getR k52_102 fk_0_29 sh0 rfl ?_
              refine y_getR k52_105 fk_0_149 sh34 rfl ?_
              refine y_iload_n k52_108 rfl ?_
              obtain ⟨r154, g153, hc155, hE⟩ := zbd_some hE
              refine y_invVi (j := 21) (As := [.int x1]) (rest := []) (N := zm21) (F21 K 41 x1 rw41 _ r154 g153 hc155 (d + 2)) k52_109 lk_0_122 zm21_get na21 rfl (Nat.le_of_ble_eq_true rfl) sh41 (by decide) rfl ?_
              obtain ⟨rfl, rfl⟩ := zpr hE
              exact y_iret k52_112 rfl
            · rw [if_neg c152] at hE
              by_cases c156 : x2 = 5
              · rw [if_pos c156] at hE
                refine y_tsw (tgt := 113) (off := 101) 5 k52_12 c156 (by decide) (by decide) (by decide) (by decide) ?_
                refine y_aload_n k52_113 rfl rfl ?_
                refine y_getR k52_114 fk_0_29 sh0 rfl ?_
                refine y_iload_n k52_117 rfl ?_
                obtain ⟨r158, g157, hc159, hE⟩ := zbd_some hE
                refine y_invVi (j := 55) (As := [.int x1]) (rest := []) (N := zm55) (F55 K 34 x1 stt34 _ r158 g157 hc159 (d + 0)) k52_118 lk_0_150 zm55_get na55 rfl (Nat.le_of_ble_eq_true rfl) sh34 (by decide) rfl ?_
                obtain ⟨rfl, rfl⟩ := zpr hE
                exact y_iret k52_121 rfl
              · rw [if_neg c156] at hE
                by_cases c160 : x2 = 6
                · rw [if_pos c160] at hE
                  refine y_tsw (tgt := 122) (off := 110) 6 k52_12 c160 (by decide) (by decide) (by decide) (by decide) ?_
                  refine y_aload_n k52_122 rfl rfl ?_
                  refine y_getR k52_123 fk_0_19 sh0 rfl ?_
                  refine y_getR k52_126 fk_0_153 sh4 rfl ?_
                  refine y_iload_n k52_129 rfl ?_
                  obtain ⟨r162, g161, hc163, hE⟩ := zbd_some hE
                  refine y_invVi (j := 21) (As := [.int x1]) (rest := []) (N := zm21) (F21 K 11 x1 rw11 _ r162 g161 hc163 (d + 2)) k52_130 lk_0_122 zm21_get na21 rfl (Nat.le_of_ble_eq_true rfl) sh11 (by decide) rfl ?_
                  obtain ⟨rfl, rfl⟩ := zpr hE
                  exact y_iret k52_133 rfl
                · rw [if_neg c160] at hE
                  have w12 : x2.toInt < 0 ∨ 6 < x2.toInt := by
                    have e0 := lv_neT (a := 0) c136 (by decide)
                    have e1 := lv_neT (a := 1) c140 (by decide)
                    have e2 := lv_neT (a := 2) c144 (by decide)
                    have e3 := lv_neT (a := 3) c148 (by decide)
                    have e4 := lv_neT (a := 4) c152 (by decide)
                    have e5 := lv_neT (a := 5) c156 (by decide)
                    have e6 := lv_neT (a := 6) c160 (by decide)
                    omega
                  refine y_tswD (tgt := 134) k52_12 w12 (by decide) ?_
                  refine y_bipush (v := (-3)) k52_134 b8_m3 ?_
                  obtain ⟨rfl, rfl⟩ := zpr hE
                  exact y_iret k52_136 rfl
  · rw [if_neg c164] at hE
    refine y_ifF 11 k52_5 (by decide) c164 ?_
    refine y_bipush (v := (-2)) k52_8 b8_m2 ?_
    obtain ⟨rfl, rfl⟩ := zpr hE
    exact y_iret k52_10 rfl
-- AdjectiveCoupons$Prices.priceOf
def f60_149 (K : Nat) (k22 : Nat → Int32 → Int32 → Int32 → Int32 → Int32 → Int32 → Int32 → zS → Option (Int32 × zS)) (o1 : Nat) (x2 : Int32) (x3 : Int32) (x5 : Int32) (x6 : Int32) (x7 : Int32) (x8 : Int32) (xs0 : Int32) (xs1 : Int32) (g : zS) : Option (Int32 × zS) := k22 o1 x2 x3 (xs0 ||| xs1) x5 x6 x7 (x8 + 1) g
def f60_133 (K : Nat) (k22 : Nat → Int32 → Int32 → Int32 → Int32 → Int32 → Int32 → Int32 → zS → Option (Int32 × zS)) (o1 : Nat) (x2 : Int32) (x3 : Int32) (x4 : Int32) (x5 : Int32) (x6 : Int32) (x7 : Int32) (x8 : Int32) (x9 : Int32) (g : zS) : Option (Int32 × zS) := if ¬ x9 = (-1) then f60_149 K k22 o1 x2 x3 x5 x6 x7 x8 x4 (1 <<< (x9 &&& 31)) g else (f60_149 K k22 o1 x2 x3 x5 x6 x7 x8 x4 0 g)
def f60_119 (K : Nat) (k22 : Nat → Int32 → Int32 → Int32 → Int32 → Int32 → Int32 → Int32 → zS → Option (Int32 × zS)) (o1 : Nat) (x2 : Int32) (x3 : Int32) (x4 : Int32) (x5 : Int32) (x6 : Int32) (x7 : Int32) (x8 : Int32) (x9 : Int32) (x11 : Int32) (g : zS) : Option (Int32 × zS) := f60_133 K k22 o1 x2 (x3 + x11) x4 (x5 + 1) x6 x7 x8 x9 g
def f60_90 (K : Nat) (k22 : Nat → Int32 → Int32 → Int32 → Int32 → Int32 → Int32 → Int32 → zS → Option (Int32 × zS)) (o1 : Nat) (x2 : Int32) (x3 : Int32) (x4 : Int32) (x5 : Int32) (x6 : Int32) (x7 : Int32) (x8 : Int32) (x9 : Int32) (x10 : Int32) (xs0 : Int32) (g : zS) : Option (Int32 × zS) := if ¬ x10 = 2 then f60_119 K k22 o1 x2 x3 x4 x5 x6 x7 x8 x9 xs0 g else if xs0 ≤ 0 then f60_119 K k22 o1 x2 x3 x4 x5 x6 x7 x8 x9 xs0 g else (zbd (f67 K x2 x6 xs0 g) fun r214 g213 => f60_119 K k22 o1 x2 x3 x4 x5 0 x7 x8 x9 (xs0 - r214) g213)
def f60_22 (K : Nat) : Nat → Nat → Int32 → Int32 → Int32 → Int32 → Int32 → Int32 → Int32 → zS → Option (Int32 × zS)
  | 0, _, _, _, _, _, _, _, _, _ => none
  | n + 1, o1, x2, x3, x4, x5, x6, x7, x8, g => if (g o1 1) ≤ x8 then some (x3, g) else (zbd (f62 K o1 x8 g) fun r219 g218 => zbd (f61 K o1 (x8 + 1) g218) fun r222 g221 => zbd (f63 K x7 g221) fun r225 g224 => if r225 = 0 then f60_133 K (f60_22 K n) o1 x2 x3 x4 0 x6 r222 x8 r219 g224 else (zbd (f64 K x4 r219 g224) fun r228 g227 => zbd (f65 K r222 r228 g227) fun r231 g230 => if r231 = 0 then zbd (f66 K x7 x5 g230) fun r234 g233 => f60_90 K (f60_22 K n) o1 x2 x3 x4 x5 x6 r222 x8 r219 x7 r234 g233 else (f60_90 K (f60_22 K n) o1 x2 x3 x4 x5 x6 r222 x8 r219 x7 0 g230)))
def f60 (K : Nat) (o1 : Nat) (x2 : Int32) (g : zS) : Option (Int32 × zS) := zbd (f61 K o1 0 g) fun r240 g239 => f60_22 K K o1 x2 0 0 0 1 r240 0 g239
theorem F60_149 {L : Nat} {xs : Nat → Int32} {d : Nat} (K : Nat) (k22 : Nat → Int32 → Int32 → Int32 → Int32 → Int32 → Int32 → Int32 → zS → Option (Int32 × zS)) (hk22 : ∀ (o1 : Nat) (x2 : Int32) (x3 : Int32) (x4 : Int32) (x5 : Int32) (x6 : Int32) (x7 : Int32) (x8 : Int32) (h1 : zLine o1) (g : zS) (r : Int32) (g' : zS), k22 o1 x2 x3 x4 x5 x6 x7 x8 g = some (r, g') → zG2 L xs (d + 3) zm60 22 [some (.ref 183), some (.ref o1), some (.int x2), some (.int x3), some (.int x4), some (.int x5), some (.int x6), some (.int x7), some (.int x8), none, none, none] [] g (some (.int r)) g') (o1 : Nat) (x2 : Int32) (x3 : Int32) (x5 : Int32) (x6 : Int32) (x7 : Int32) (x8 : Int32) (xs0 : Int32) (xs1 : Int32) (h1 : zLine o1) (g : zS) (r : Int32) (g' : zS) (hE : f60_149 K k22 o1 x2 x3 x5 x6 x7 x8 xs0 xs1 g = some (r, g')) : zG2 L xs (d + 3) zm60 149 [some (.ref 183), some (.ref o1), some (.int x2), some (.int x3), none, some (.int x5), some (.int x6), some (.int x7), some (.int x8), none, none, none] [.int xs1, .int xs0] g (some (.int r)) g' := by
  unfold f60_149 at hE
  refine y_ior k60_149 ?_
  refine y_istore (ls2 := [some (.ref 183), some (.ref o1), some (.int x2), some (.int x3), some (.int (xs0 ||| xs1)), some (.int x5), some (.int x6), some (.int x7), some (.int x8), none, none, none]) k60_150 rfl (Nat.le_of_ble_eq_true rfl) rfl ?_
  refine y_iinc (v := (x8 + 1)) (ls2 := [some (.ref 183), some (.ref o1), some (.int x2), some (.int x3), some (.int (xs0 ||| xs1)), some (.int x5), some (.int x6), some (.int x7), some (.int (x8 + 1)), none, none, none]) k60_152 rfl rfl (by rw [oi_1]) rfl ?_
  refine y_goto (tgt := 22) k60_155 (by decide) ?_
  exact hk22 o1 x2 x3 (xs0 ||| xs1) x5 x6 x7 (x8 + 1) h1 _ _ _ hE
theorem F60_133 {L : Nat} {xs : Nat → Int32} {d : Nat} (K : Nat) (k22 : Nat → Int32 → Int32 → Int32 → Int32 → Int32 → Int32 → Int32 → zS → Option (Int32 × zS)) (hk22 : ∀ (o1 : Nat) (x2 : Int32) (x3 : Int32) (x4 : Int32) (x5 : Int32) (x6 : Int32) (x7 : Int32) (x8 : Int32) (h1 : zLine o1) (g : zS) (r : Int32) (g' : zS), k22 o1 x2 x3 x4 x5 x6 x7 x8 g = some (r, g') → zG2 L xs (d + 3) zm60 22 [some (.ref 183), some (.ref o1), some (.int x2), some (.int x3), some (.int x4), some (.int x5), some (.int x6), some (.int x7), some (.int x8), none, none, none] [] g (some (.int r)) g') (o1 : Nat) (x2 : Int32) (x3 : Int32) (x4 : Int32) (x5 : Int32) (x6 : Int32) (x7 : Int32) (x8 : Int32) (x9 : Int32) (h1 : zLine o1) (g : zS) (r : Int32) (g' : zS) (hE : f60_133 K k22 o1 x2 x3 x4 x5 x6 x7 x8 x9 g = some (r, g')) : zG2 L xs (d + 3) zm60 133 [some (.ref 183), some (.ref o1), some (.int x2), some (.int x3), some (.int x4), some (.int x5), some (.int x6), some (.int x7), some (.int x8), some (.int x9), none, none] [] g (some (.int r)) g' := by
  unfold f60_133 at hE
  refine y_iload k60_133 rfl ?_
  refine y_iload k60_135 rfl ?_
  refine y_iconst (v := (-1)) k60_137 oi_m1 ?_
  by_cases c212 : ¬ x9 = (-1)
  · rw [if_pos c212] at hE
    refine y_icT (tgt := 145) k60_138 (by decide) c212 ?_
    refine y_iconst (v := 1) k60_145 oi_1 ?_
    refine y_iload k60_146 rfl ?_
    refine y_ishl k60_148 ?_
    exact y_weak (ls0 := [some (.ref 183), some (.ref o1), some (.int x2), some (.int x3), none, some (.int x5), some (.int x6), some (.int x7), some (.int x8), none, none, none]) ⟨rfl, rfl, rfl, rfl, rfl, rfl, rfl, rfl, rfl, rfl, rfl, rfl, trivial⟩ (F60_149 K k22 hk22 o1 x2 x3 x5 x6 x7 x8 x4 (1 <<< (x9 &&& 31)) h1 _ _ _ hE)
  · rw [if_neg c212] at hE
    refine y_icF 145 k60_138 (by decide) c212 ?_
    refine y_iconst (v := 0) k60_141 oi_0 ?_
    refine y_goto (tgt := 149) k60_142 (by decide) ?_
    exact y_weak (ls0 := [some (.ref 183), some (.ref o1), some (.int x2), some (.int x3), none, some (.int x5), some (.int x6), some (.int x7), some (.int x8), none, none, none]) ⟨rfl, rfl, rfl, rfl, rfl, rfl, rfl, rfl, rfl, rfl, rfl, rfl, trivial⟩ (F60_149 K k22 hk22 o1 x2 x3 x5 x6 x7 x8 x4 0 h1 _ _ _ hE)
theorem F60_119 {L : Nat} {xs : Nat → Int32} {d : Nat} (K : Nat) (k22 : Nat → Int32 → Int32 → Int32 → Int32 → Int32 → Int32 → Int32 → zS → Option (Int32 × zS)) (hk22 : ∀ (o1 : Nat) (x2 : Int32) (x3 : Int32) (x4 : Int32) (x5 : Int32) (x6 : Int32) (x7 : Int32) (x8 : Int32) (h1 : zLine o1) (g : zS) (r : Int32) (g' : zS), k22 o1 x2 x3 x4 x5 x6 x7 x8 g = some (r, g') → zG2 L xs (d + 3) zm60 22 [some (.ref 183), some (.ref o1), some (.int x2), some (.int x3), some (.int x4), some (.int x5), some (.int x6), some (.int x7), some (.int x8), none, none, none] [] g (some (.int r)) g') (o1 : Nat) (x2 : Int32) (x3 : Int32) (x4 : Int32) (x5 : Int32) (x6 : Int32) (x7 : Int32) (x8 : Int32) (x9 : Int32) (x11 : Int32) (h1 : zLine o1) (g : zS) (r : Int32) (g' : zS) (hE : f60_119 K k22 o1 x2 x3 x4 x5 x6 x7 x8 x9 x11 g = some (r, g')) : zG2 L xs (d + 3) zm60 119 [some (.ref 183), some (.ref o1), some (.int x2), some (.int x3), some (.int x4), some (.int x5), some (.int x6), some (.int x7), some (.int x8), some (.int x9), none, some (.int x11)] [] g (some (.int r)) g' := by
  unfold f60_119 at hE
  refine y_iload_n k60_119 rfl ?_
  refine y_iload k60_120 rfl ?_
  refine y_iadd k60_122 ?_
  refine y_istore_n (ls2 := [some (.ref 183), some (.ref o1), some (.int x2), some (.int (x3 + x11)), some (.int x4), some (.int x5), some (.int x6), some (.int x7), some (.int x8), some (.int x9), none, some (.int x11)]) k60_123 rfl (Nat.le_of_ble_eq_true rfl) rfl ?_
  refine y_iinc (v := (x5 + 1)) (ls2 := [some (.ref 183), some (.ref o1), some (.int x2), some (.int (x3 + x11)), some (.int x4), some (.int (x5 + 1)), some (.int x6), some (.int x7), some (.int x8), some (.int x9), none, some (.int x11)]) k60_124 rfl rfl (by rw [oi_1]) rfl ?_
  refine y_goto (tgt := 133) k60_127 (by decide) ?_
  exact y_weak (ls0 := [some (.ref 183), some (.ref o1), some (.int x2), some (.int (x3 + x11)), some (.int x4), some (.int (x5 + 1)), some (.int x6), some (.int x7), some (.int x8), some (.int x9), none, none]) ⟨rfl, rfl, rfl, rfl, rfl, rfl, rfl, rfl, rfl, rfl, rfl, rfl, trivial⟩ (F60_133 K k22 hk22 o1 x2 (x3 + x11) x4 (x5 + 1) x6 x7 x8 x9 h1 _ _ _ hE)
theorem F60_90 {L : Nat} {xs : Nat → Int32} {d : Nat} (K : Nat) (k22 : Nat → Int32 → Int32 → Int32 → Int32 → Int32 → Int32 → Int32 → zS → Option (Int32 × zS)) (hk22 : ∀ (o1 : Nat) (x2 : Int32) (x3 : Int32) (x4 : Int32) (x5 : Int32) (x6 : Int32) (x7 : Int32) (x8 : Int32) (h1 : zLine o1) (g : zS) (r : Int32) (g' : zS), k22 o1 x2 x3 x4 x5 x6 x7 x8 g = some (r, g') → zG2 L xs (d + 3) zm60 22 [some (.ref 183), some (.ref o1), some (.int x2), some (.int x3), some (.int x4), some (.int x5), some (.int x6), some (.int x7), some (.int x8), none, none, none] [] g (some (.int r)) g') (o1 : Nat) (x2 : Int32) (x3 : Int32) (x4 : Int32) (x5 : Int32) (x6 : Int32) (x7 : Int32) (x8 : Int32) (x9 : Int32) (x10 : Int32) (xs0 : Int32) (h1 : zLine o1) (g : zS) (r : Int32) (g' : zS) (hE : f60_90 K k22 o1 x2 x3 x4 x5 x6 x7 x8 x9 x10 xs0 g = some (r, g')) : zG2 L xs (d + 3) zm60 90 [some (.ref 183), some (.ref o1), some (.int x2), some (.int x3), some (.int x4), some (.int x5), some (.int x6), some (.int x7), some (.int x8), some (.int x9), some (.int x10), none] [.int xs0] g (some (.int r)) g' := by
  unfold f60_90 at hE
  refine y_istore (ls2 := [some (.ref 183), some (.ref o1), some (.int x2), some (.int x3), some (.int x4), some (.int x5), some (.int x6), some (.int x7), some (.int x8), some (.int x9), some (.int x10), some (.int xs0)]) k60_90 rfl (Nat.le_of_ble_eq_true rfl) rfl ?_
  refine y_iload k60_92 rfl ?_
  refine y_iconst (v := 2) k60_94 oi_2 ?_
  by_cases c217 : ¬ x10 = 2
  · rw [if_pos c217] at hE
    refine y_icT (tgt := 119) k60_95 (by decide) c217 ?_
    exact y_weak (ls0 := [some (.ref 183), some (.ref o1), some (.int x2), some (.int x3), some (.int x4), some (.int x5), some (.int x6), some (.int x7), some (.int x8), some (.int x9), none, some (.int xs0)]) ⟨rfl, rfl, rfl, rfl, rfl, rfl, rfl, rfl, rfl, rfl, rfl, rfl, trivial⟩ (F60_119 K k22 hk22 o1 x2 x3 x4 x5 x6 x7 x8 x9 xs0 h1 _ _ _ hE)
  · rw [if_neg c217] at hE
    refine y_icF 119 k60_95 (by decide) c217 ?_
    refine y_iload k60_98 rfl ?_
    by_cases c216 : xs0 ≤ 0
    · rw [if_pos c216] at hE
      refine y_ifT (tgt := 119) k60_100 (by decide) c216 ?_
      exact y_weak (ls0 := [some (.ref 183), some (.ref o1), some (.int x2), some (.int x3), some (.int x4), some (.int x5), some (.int x6), some (.int x7), some (.int x8), some (.int x9), none, some (.int xs0)]) ⟨rfl, rfl, rfl, rfl, rfl, rfl, rfl, rfl, rfl, rfl, rfl, rfl, trivial⟩ (F60_119 K k22 hk22 o1 x2 x3 x4 x5 x6 x7 x8 x9 xs0 h1 _ _ _ hE)
    · rw [if_neg c216] at hE
      refine y_ifF 119 k60_100 (by decide) c216 ?_
      refine y_iload k60_103 rfl ?_
      refine y_iload_n k60_105 rfl ?_
      refine y_iload k60_106 rfl ?_
      refine y_iload k60_108 rfl ?_
      obtain ⟨r214, g213, hc215, hE⟩ := zbd_some hE
      refine y_invSi (j := 67) (As := [.int x2, .int x6, .int xs0]) (rest := [.int xs0]) (N := zm67) (F67 K x2 x6 xs0 _ r214 g213 hc215 (d + 2)) k60_110 lk_7_69 zm67_get na67 rfl (Nat.le_of_ble_eq_true rfl) ?_
      refine y_isub k60_113 ?_
      refine y_istore (ls2 := [some (.ref 183), some (.ref o1), some (.int x2), some (.int x3), some (.int x4), some (.int x5), some (.int x6), some (.int x7), some (.int x8), some (.int x9), some (.int x10), some (.int (xs0 - r214))]) k60_114 rfl (Nat.le_of_ble_eq_true rfl) rfl ?_
      refine y_iconst (v := 0) k60_116 oi_0 ?_
      refine y_istore (ls2 := [some (.ref 183), some (.ref o1), some (.int x2), some (.int x3), some (.int x4), some (.int x5), some (.int 0), some (.int x7), some (.int x8), some (.int x9), some (.int x10), some (.int (xs0 - r214))]) k60_117 rfl (Nat.le_of_ble_eq_true rfl) rfl ?_
      exact y_weak (ls0 := [some (.ref 183), some (.ref o1), some (.int x2), some (.int x3), some (.int x4), some (.int x5), some (.int 0), some (.int x7), some (.int x8), some (.int x9), none, some (.int (xs0 - r214))]) ⟨rfl, rfl, rfl, rfl, rfl, rfl, rfl, rfl, rfl, rfl, rfl, rfl, trivial⟩ (F60_119 K k22 hk22 o1 x2 x3 x4 x5 0 x7 x8 x9 (xs0 - r214) h1 _ _ _ hE)
theorem F60_22 {L : Nat} {xs : Nat → Int32} {d : Nat} (K : Nat) : ∀ (n : Nat) (o1 : Nat) (x2 : Int32) (x3 : Int32) (x4 : Int32) (x5 : Int32) (x6 : Int32) (x7 : Int32) (x8 : Int32) (h1 : zLine o1) (g : zS) (r : Int32) (g' : zS) (hE : f60_22 K n o1 x2 x3 x4 x5 x6 x7 x8 g = some (r, g')), zG2 L xs (d + 3) zm60 22 [some (.ref 183), some (.ref o1), some (.int x2), some (.int x3), some (.int x4), some (.int x5), some (.int x6), some (.int x7), some (.int x8), none, none, none] [] g (some (.int r)) g' := by
  intro n
  induction n with
  | zero => intro o1 x2 x3 x4 x5 x6 x7 x8 h1 g r g' hE; cases hE
  | succ n ih =>
    intro o1 x2 x3 x4 x5 x6 x7 x8 h1 g r g' hE
    rw [f60_22] at hE
    refine y_iload k60_22 rfl ?_
    refine y_aload_n k60_24 rfl rfl ?_
    refine y_getI k60_25 fk_7_47 h1.1 rfl ?_
    by_cases c238 : (g o1 1) ≤ x8
    · rw [if_pos c238] at hE
      refine y_icT (tgt := 158) k60_28 (by decide) c238 ?_
      refine y_iload_n k60_158 rfl ?_
      obtain ⟨rfl, rfl⟩ := zpr hE
      exact y_iret k60_159 rfl
    · rw [if_neg c238] at hE
      refine y_icF 158 k60_28 (by decide) c238 ?_
      refine y_aload_n k60_31 rfl rfl ?_
      refine y_iload k60_32 rfl ?_
      obtain ⟨r219, g218, hc220, hE⟩ := zbd_some hE
      refine y_invVi (j := 62) (As := [.int x8]) (rest := []) (N := zm62) (F62 K o1 x8 h1 _ r219 g218 hc220 (d + 1)) k60_34 lk_7_38 zm62_get na62 rfl (Nat.le_of_ble_eq_true rfl) h1.1 (by decide) rfl ?_
      refine y_istore (ls2 := [some (.ref 183), some (.ref o1), some (.int x2), some (.int x3), some (.int x4), some (.int x5), some (.int x6), some (.int x7), some (.int x8), some (.int r219), none, none]) k60_37 rfl (Nat.le_of_ble_eq_true rfl) rfl ?_
      refine y_iload k60_39 rfl ?_
      refine y_istore (ls2 := [some (.ref 183), some (.ref o1), some (.int x2), some (.int x3), some (.int x4), some (.int x5), some (.int x6), some (.int x7), some (.int x8), some (.int r219), some (.int x7), none]) k60_41 rfl (Nat.le_of_ble_eq_true rfl) rfl ?_
      refine y_aload_n k60_43 rfl rfl ?_
      refine y_aload_n k60_44 rfl rfl ?_
      refine y_iload k60_45 rfl ?_
      refine y_iconst (v := 1) k60_47 oi_1 ?_
      refine y_iadd k60_48 ?_
      obtain ⟨r222, g221, hc223, hE⟩ := zbd_some hE
      refine y_invVi (j := 61) (As := [.ref o1, .int (x8 + 1)]) (rest := []) (N := zm61) (F61 K o1 (x8 + 1) h1 _ r222 g221 hc223 (d + 0)) k60_49 lk_7_50 zm61_get na61 rfl (Nat.le_of_ble_eq_true rfl) sh183 (by decide) rfl ?_
      refine y_istore (ls2 := [some (.ref 183), some (.ref o1), some (.int x2), some (.int x3), some (.int x4), some (.int x5), some (.int x6), some (.int r222), some (.int x8), some (.int r219), some (.int x7), none]) k60_52 rfl (Nat.le_of_ble_eq_true rfl) rfl ?_
      refine y_iload k60_54 rfl ?_
      obtain ⟨r225, g224, hc226, hE⟩ := zbd_some hE
      refine y_invSi (j := 63) (As := [.int x7]) (rest := []) (N := zm63) (F63 K x7 _ r225 g224 hc226 (d + 2)) k60_56 lk_7_54 zm63_get na63 rfl (Nat.le_of_ble_eq_true rfl) ?_
      by_cases c237 : r225 = 0
      · rw [if_pos c237] at hE
        refine y_ifT (tgt := 130) k60_59 (by decide) c237 ?_
        refine y_iconst (v := 0) k60_130 oi_0 ?_
        refine y_istore (ls2 := [some (.ref 183), some (.ref o1), some (.int x2), some (.int x3), some (.int x4), some (.int 0), some (.int x6), some (.int r222), some (.int x8), some (.int r219), some (.int x7), none]) k60_131 rfl (Nat.le_of_ble_eq_true rfl) rfl ?_
        exact y_weak (ls0 := [some (.ref 183), some (.ref o1), some (.int x2), some (.int x3), some (.int x4), some (.int 0), some (.int x6), some (.int r222), some (.int x8), some (.int r219), none, none]) ⟨rfl, rfl, rfl, rfl, rfl, rfl, rfl, rfl, rfl, rfl, rfl, rfl, trivial⟩ (F60_133 K (f60_22 K n) ih o1 x2 x3 x4 0 x6 r222 x8 r219 h1 _ _ _ hE)
      · rw [if_neg c237] at hE
        refine y_ifF 130 k60_59 (by decide) c237 ?_
        refine y_aload_n k60_62 rfl rfl ?_
        refine y_iload k60_63 rfl ?_
        refine y_iload k60_65 rfl ?_
        refine y_iload k60_67 rfl ?_
        obtain ⟨r228, g227, hc229, hE⟩ := zbd_some hE
        refine y_invSi (j := 64) (As := [.int x4, .int r219]) (rest := [.int r222, .ref 183]) (N := zm64) (F64 K x4 r219 _ r228 g227 hc229 (d + 2)) k60_69 lk_7_58 zm64_get na64 rfl (Nat.le_of_ble_eq_true rfl) ?_
        obtain ⟨r231, g230, hc232, hE⟩ := zbd_some hE
        refine y_invVi (j := 65) (As := [.int r222, .int r228]) (rest := []) (N := zm65) (F65 K r222 r228 _ r231 g230 hc232 (d + 2)) k60_72 lk_7_62 zm65_get na65 rfl (Nat.le_of_ble_eq_true rfl) sh183 (by decide) rfl ?_
        by_cases c236 : r231 = 0
        · rw [if_pos c236] at hE
          refine y_ifT (tgt := 82) k60_75 (by decide) c236 ?_
          refine y_aload_n k60_82 rfl rfl ?_
          refine y_iload k60_83 rfl ?_
          refine y_iload k60_85 rfl ?_
          obtain ⟨r234, g233, hc235, hE⟩ := zbd_some hE
          refine y_invVi (j := 66) (As := [.int x7, .int x5]) (rest := []) (N := zm66) (F66 K x7 x5 _ r234 g233 hc235 (d + 2)) k60_87 lk_7_66 zm66_get na66 rfl (Nat.le_of_ble_eq_true rfl) sh183 (by decide) rfl ?_
          exact F60_90 K (f60_22 K n) ih o1 x2 x3 x4 x5 x6 r222 x8 r219 x7 r234 h1 _ _ _ hE
        · rw [if_neg c236] at hE
          refine y_ifF 82 k60_75 (by decide) c236 ?_
          refine y_iconst (v := 0) k60_78 oi_0 ?_
          refine y_goto (tgt := 90) k60_79 (by decide) ?_
          exact F60_90 K (f60_22 K n) ih o1 x2 x3 x4 x5 x6 r222 x8 r219 x7 0 h1 _ _ _ hE
theorem F60 {L : Nat} {xs : Nat → Int32} (K : Nat) (o1 : Nat) (x2 : Int32) (h1 : zLine o1) (g : zS) (r : Int32) (g' : zS) (hE : f60 K o1 x2 g = some (r, g')) (d : Nat) : zE2 L xs (d + 4) 60 [.ref 183, .ref o1, .int x2] g (some (.int r)) g' := by
  refine y_ev (n := 0) (d := d + 3) (ls := [some (.ref 183), some (.ref o1), some (.int x2), none, none, none, none, none, none, none, none, none]) zm60_get (by decide) (Nat.le_of_ble_eq_true rfl) rfl ?_
  unfold f60 at hE
  refine y_iconst (v := 0) k60_0 oi_0 ?_
  refine y_istore_n (ls2 := [some (.ref 183), some (.ref o1), some (.int x2), some (.int 0), none, none, none, none, none, none, none, none]) k60_1 rfl (Nat.le_of_ble_eq_true rfl) rfl ?_
  refine y_iconst (v := 0) k60_2 oi_0 ?_
  refine y_istore (ls2 := [some (.ref 183), some (.ref o1), some (.int x2), some (.int 0), some (.int 0), none, none, none, none, none, none, none]) k60_3 rfl (Nat.le_of_ble_eq_true rfl) rfl ?_
  refine y_iconst (v := 0) k60_5 oi_0 ?_
  refine y_istore (ls2 := [some (.ref 183), some (.ref o1), some (.int x2), some (.int 0), some (.int 0), some (.int 0), none, none, none, none, none, none]) k60_6 rfl (Nat.le_of_ble_eq_true rfl) rfl ?_
  refine y_iconst (v := 1) k60_8 oi_1 ?_
  refine y_istore (ls2 := [some (.ref 183), some (.ref o1), some (.int x2), some (.int 0), some (.int 0), some (.int 0), some (.int 1), none, none, none, none, none]) k60_9 rfl (Nat.le_of_ble_eq_true rfl) rfl ?_
  refine y_aload_n k60_11 rfl rfl ?_
  refine y_aload_n k60_12 rfl rfl ?_
  refine y_iconst (v := 0) k60_13 oi_0 ?_
  obtain ⟨r240, g239, hc241, hE⟩ := zbd_some hE
  refine y_invVi (j := 61) (As := [.ref o1, .int 0]) (rest := []) (N := zm61) (F61 K o1 0 h1 _ r240 g239 hc241 (d + 0)) k60_14 lk_7_50 zm61_get na61 rfl (Nat.le_of_ble_eq_true rfl) sh183 (by decide) rfl ?_
  refine y_istore (ls2 := [some (.ref 183), some (.ref o1), some (.int x2), some (.int 0), some (.int 0), some (.int 0), some (.int 1), some (.int r240), none, none, none, none]) k60_17 rfl (Nat.le_of_ble_eq_true rfl) rfl ?_
  refine y_iconst (v := 0) k60_19 oi_0 ?_
  refine y_istore (ls2 := [some (.ref 183), some (.ref o1), some (.int x2), some (.int 0), some (.int 0), some (.int 0), some (.int 1), some (.int r240), some (.int 0), none, none, none]) k60_20 rfl (Nat.le_of_ble_eq_true rfl) rfl ?_
  exact F60_22 K K o1 x2 0 0 0 1 r240 0 h1 _ _ _ hE
-- AdjectiveCoupons$Prices.isGood
def f74_37 (K : Nat) (k4 : Nat → Int32 → Int32 → zS → Option (Int32 × zS)) (o1 : Nat) (x3 : Int32) (x4 : Int32) (g : zS) : Option (Int32 × zS) := k4 o1 x4 (x3 + 1) g
def f74_4 (K : Nat) : Nat → Nat → Int32 → Int32 → zS → Option (Int32 × zS)
  | 0, _, _, _, _ => none
  | n + 1, o1, x2, x3, g => if (g o1 1) ≤ x3 then if (g o1 1) ≤ 0 then some (0, g) else (zbd (f63 K x2 g) fun r138 g137 => if ¬ r138 = 0 then some (0, g137) else (some (1, g137))) else (zbd (f61 K o1 x3 g) fun r143 g142 => if r143 = (-1) then some (0, g142) else if ¬ r143 = 0 then f74_37 K (f74_4 K n) o1 x3 r143 g142 else if ¬ x2 = 0 then f74_37 K (f74_4 K n) o1 x3 r143 g142 else (some (0, g142)))
def f74 (K : Nat) (o1 : Nat) (g : zS) : Option (Int32 × zS) := f74_4 K K o1 (-1) 0 g
theorem F74_37 {L : Nat} {xs : Nat → Int32} {d : Nat} (K : Nat) (k4 : Nat → Int32 → Int32 → zS → Option (Int32 × zS)) (hk4 : ∀ (o1 : Nat) (x2 : Int32) (x3 : Int32) (h1 : zLine o1) (g : zS) (r : Int32) (g' : zS), k4 o1 x2 x3 g = some (r, g') → zG2 L xs (d + 3) zm74 4 [some (.ref 183), some (.ref o1), some (.int x2), some (.int x3), none] [] g (some (.int r)) g') (o1 : Nat) (x3 : Int32) (x4 : Int32) (h1 : zLine o1) (g : zS) (r : Int32) (g' : zS) (hE : f74_37 K k4 o1 x3 x4 g = some (r, g')) : zG2 L xs (d + 3) zm74 37 [some (.ref 183), some (.ref o1), none, some (.int x3), some (.int x4)] [] g (some (.int r)) g' := by
  unfold f74_37 at hE
  refine y_iload k74_37 rfl ?_
  refine y_istore_n (ls2 := [some (.ref 183), some (.ref o1), some (.int x4), some (.int x3), some (.int x4)]) k74_39 rfl (Nat.le_of_ble_eq_true rfl) rfl ?_
  refine y_iinc (v := (x3 + 1)) (ls2 := [some (.ref 183), some (.ref o1), some (.int x4), some (.int (x3 + 1)), some (.int x4)]) k74_40 rfl rfl (by rw [oi_1]) rfl ?_
  refine y_goto (tgt := 4) k74_43 (by decide) ?_
  exact y_weak (ls0 := [some (.ref 183), some (.ref o1), some (.int x4), some (.int (x3 + 1)), none]) ⟨rfl, rfl, rfl, rfl, rfl, trivial⟩ (hk4 o1 x4 (x3 + 1) h1 _ _ _ hE)
theorem F74_4 {L : Nat} {xs : Nat → Int32} {d : Nat} (K : Nat) : ∀ (n : Nat) (o1 : Nat) (x2 : Int32) (x3 : Int32) (h1 : zLine o1) (g : zS) (r : Int32) (g' : zS) (hE : f74_4 K n o1 x2 x3 g = some (r, g')), zG2 L xs (d + 3) zm74 4 [some (.ref 183), some (.ref o1), some (.int x2), some (.int x3), none] [] g (some (.int r)) g' := by
  intro n
  induction n with
  | zero => intro o1 x2 x3 h1 g r g' hE; cases hE
  | succ n ih =>
    intro o1 x2 x3 h1 g r g' hE
    rw [f74_4] at hE
    refine y_iload_n k74_4 rfl ?_
    refine y_aload_n k74_5 rfl rfl ?_
    refine y_getI k74_6 fk_7_47 h1.1 rfl ?_
    by_cases c148 : (g o1 1) ≤ x3
    · rw [if_pos c148] at hE
      refine y_icT (tgt := 46) k74_9 (by decide) c148 ?_
      refine y_aload_n k74_46 rfl rfl ?_
      refine y_getI k74_47 fk_7_47 h1.1 rfl ?_
      by_cases c141 : (g o1 1) ≤ 0
      · rw [if_pos c141] at hE
        refine y_ifT (tgt := 64) k74_50 (by decide) c141 ?_
        refine y_iconst (v := 0) k74_64 oi_0 ?_
        obtain ⟨rfl, rfl⟩ := zpr hE
        exact y_zret k74_65 rfl (by decide)
      · rw [if_neg c141] at hE
        refine y_ifF 64 k74_50 (by decide) c141 ?_
        refine y_iload_n k74_53 rfl ?_
        obtain ⟨r138, g137, hc139, hE⟩ := zbd_some hE
        refine y_invSi (j := 63) (As := [.int x2]) (rest := []) (N := zm63) (F63 K x2 _ r138 g137 hc139 (d + 2)) k74_54 lk_7_54 zm63_get na63 rfl (Nat.le_of_ble_eq_true rfl) ?_
        by_cases c140 : ¬ r138 = 0
        · rw [if_pos c140] at hE
          refine y_ifT (tgt := 64) k74_57 (by decide) c140 ?_
          refine y_iconst (v := 0) k74_64 oi_0 ?_
          obtain ⟨rfl, rfl⟩ := zpr hE
          exact y_zret k74_65 rfl (by decide)
        · rw [if_neg c140] at hE
          refine y_ifF 64 k74_57 (by decide) c140 ?_
          refine y_iconst (v := 1) k74_60 oi_1 ?_
          refine y_goto (tgt := 65) k74_61 (by decide) ?_
          obtain ⟨rfl, rfl⟩ := zpr hE
          exact y_zret k74_65 rfl (by decide)
    · rw [if_neg c148] at hE
      refine y_icF 46 k74_9 (by decide) c148 ?_
      refine y_aload_n k74_12 rfl rfl ?_
      refine y_aload_n k74_13 rfl rfl ?_
      refine y_iload_n k74_14 rfl ?_
      obtain ⟨r143, g142, hc144, hE⟩ := zbd_some hE
      refine y_invVi (j := 61) (As := [.ref o1, .int x3]) (rest := []) (N := zm61) (F61 K o1 x3 h1 _ r143 g142 hc144 (d + 0)) k74_15 lk_7_50 zm61_get na61 rfl (Nat.le_of_ble_eq_true rfl) sh183 (by decide) rfl ?_
      refine y_istore (ls2 := [some (.ref 183), some (.ref o1), some (.int x2), some (.int x3), some (.int r143)]) k74_18 rfl (Nat.le_of_ble_eq_true rfl) rfl ?_
      refine y_iload k74_20 rfl ?_
      refine y_iconst (v := (-1)) k74_22 oi_m1 ?_
      by_cases c147 : r143 = (-1)
      · rw [if_pos c147] at hE
        refine y_icT (tgt := 35) k74_23 (by decide) c147 ?_
        refine y_iconst (v := 0) k74_35 oi_0 ?_
        obtain ⟨rfl, rfl⟩ := zpr hE
        exact y_zret k74_36 rfl (by decide)
      · rw [if_neg c147] at hE
        refine y_icF 35 k74_23 (by decide) c147 ?_
        refine y_iload k74_26 rfl ?_
        by_cases c146 : ¬ r143 = 0
        · rw [if_pos c146] at hE
          refine y_ifT (tgt := 37) k74_28 (by decide) c146 ?_
          exact y_weak (ls0 := [some (.ref 183), some (.ref o1), none, some (.int x3), some (.int r143)]) ⟨rfl, rfl, rfl, rfl, rfl, trivial⟩ (F74_37 K (f74_4 K n) ih o1 x3 r143 h1 _ _ _ hE)
        · rw [if_neg c146] at hE
          refine y_ifF 37 k74_28 (by decide) c146 ?_
          refine y_iload_n k74_31 rfl ?_
          by_cases c145 : ¬ x2 = 0
          · rw [if_pos c145] at hE
            refine y_ifT (tgt := 37) k74_32 (by decide) c145 ?_
            exact y_weak (ls0 := [some (.ref 183), some (.ref o1), none, some (.int x3), some (.int r143)]) ⟨rfl, rfl, rfl, rfl, rfl, trivial⟩ (F74_37 K (f74_4 K n) ih o1 x3 r143 h1 _ _ _ hE)
          · rw [if_neg c145] at hE
            refine y_ifF 37 k74_32 (by decide) c145 ?_
            refine y_iconst (v := 0) k74_35 oi_0 ?_
            obtain ⟨rfl, rfl⟩ := zpr hE
            exact y_zret k74_36 rfl (by decide)
theorem F74 {L : Nat} {xs : Nat → Int32} (K : Nat) (o1 : Nat) (h1 : zLine o1) (g : zS) (r : Int32) (g' : zS) (hE : f74 K o1 g = some (r, g')) (d : Nat) : zE2 L xs (d + 4) 74 [.ref 183, .ref o1] g (some (.int r)) g' := by
  refine y_ev (n := 0) (d := d + 3) (ls := [some (.ref 183), some (.ref o1), none, none, none]) zm74_get (by decide) (Nat.le_of_ble_eq_true rfl) rfl ?_
  unfold f74 at hE
  refine y_iconst (v := (-1)) k74_0 oi_m1 ?_
  refine y_istore_n (ls2 := [some (.ref 183), some (.ref o1), some (.int (-1)), none, none]) k74_1 rfl (Nat.le_of_ble_eq_true rfl) rfl ?_
  refine y_iconst (v := 0) k74_2 oi_0 ?_
  refine y_istore_n (ls2 := [some (.ref 183), some (.ref o1), some (.int (-1)), some (.int 0), none]) k74_3 rfl (Nat.le_of_ble_eq_true rfl) rfl ?_
  exact F74_4 K K o1 (-1) 0 h1 _ _ _ hE
-- AdjectiveCoupons.week
def f85_42 (K : Nat) : Nat → Int32 → zS → Option (Int32 × zS)
  | 0, _, _ => none
  | n + 1, x1, g => if (g 4 1) ≤ x1 then some ((g 34 0), g) else (zbd (f21 K 35 x1 g) fun r149 g148 => zbd (f54 K 4 x1 g148) fun r152 g151 => zbd (f86 K r149 r152 (g151 4 3) g151) fun r155 g154 => zbd (f14 K 35 x1 r155 g154) fun _ g157 => (f85_42 K n) (x1 + 1) g157)
def f85 (K : Nat) (g : zS) : Option (Int32 × zS) := if (g 34 0) < 999 then zbd (f78 K 34 g) fun _ g161 => f85_42 K K 0 (zup g161 34 0 ((g161 34 0) + 1)) else (some ((-5), g))
theorem F85_42 {L : Nat} {xs : Nat → Int32} {d : Nat} (K : Nat) : ∀ (n : Nat) (x1 : Int32) (g : zS) (r : Int32) (g' : zS) (hE : f85_42 K n x1 g = some (r, g')), zG2 L xs (d + 3) zm85 42 [some (.ref 0), some (.int x1)] [] g (some (.int r)) g' := by
  intro n
  induction n with
  | zero => intro x1  g r g' hE; cases hE
  | succ n ih =>
    intro x1  g r g' hE
    rw [f85_42] at hE
    refine y_iload_n k85_42 rfl ?_
    refine y_aload_n k85_43 rfl rfl ?_
    refine y_getR k85_44 fk_0_19 sh0 rfl ?_
    refine y_getI k85_47 fk_0_88 sh4 rfl ?_
    by_cases c160 : (g 4 1) ≤ x1
    · rw [if_pos c160] at hE
      refine y_icT (tgt := 99) k85_50 (by decide) c160 ?_
      refine y_aload_n k85_99 rfl rfl ?_
      refine y_getR k85_100 fk_0_29 sh0 rfl ?_
      refine y_getI k85_103 fk_0_111 sh34 rfl ?_
      obtain ⟨rfl, rfl⟩ := zpr hE
      exact y_iret k85_106 rfl
    · rw [if_neg c160] at hE
      refine y_icF 99 k85_50 (by decide) c160 ?_
      refine y_aload_n k85_53 rfl rfl ?_
      refine y_getR k85_54 fk_0_29 sh0 rfl ?_
      refine y_getR k85_57 fk_0_140 sh34 rfl ?_
      refine y_iload_n k85_60 rfl ?_
      refine y_aload_n k85_61 rfl rfl ?_
      refine y_getR k85_62 fk_0_29 sh0 rfl ?_
      refine y_getR k85_65 fk_0_140 sh34 rfl ?_
      refine y_iload_n k85_68 rfl ?_
      obtain ⟨r149, g148, hc150, hE⟩ := zbd_some hE
      refine y_invVi (j := 21) (As := [.int x1]) (rest := [.int x1, .ref 35]) (N := zm21) (F21 K 35 x1 rw35 _ r149 g148 hc150 (d + 2)) k85_69 lk_0_122 zm21_get na21 rfl (Nat.le_of_ble_eq_true rfl) sh35 (by decide) rfl ?_
      refine y_aload_n k85_72 rfl rfl ?_
      refine y_getR k85_73 fk_0_19 sh0 rfl ?_
      refine y_iload_n k85_76 rfl ?_
      obtain ⟨r152, g151, hc153, hE⟩ := zbd_some hE
      refine y_invVi (j := 54) (As := [.int x1]) (rest := [.int r149, .int x1, .ref 35]) (N := zm54) (F54 K 4 x1 tol4 _ r152 g151 hc153 (d + 1)) k85_77 lk_0_137 zm54_get na54 rfl (Nat.le_of_ble_eq_true rfl) sh4 (by decide) rfl ?_
      refine y_aload_n k85_80 rfl rfl ?_
      refine y_getR k85_81 fk_0_19 sh0 rfl ?_
      refine y_getI k85_84 fk_0_91 sh4 rfl ?_
      obtain ⟨r155, g154, hc156, hE⟩ := zbd_some hE
      refine y_invSi (j := 86) (As := [.int r149, .int r152, .int (g151 4 3)]) (rest := [.int x1, .ref 35]) (N := zm86) (F86 K r149 r152 (g151 4 3) _ r155 g154 hc156 (d + 2)) k85_87 lk_0_197 zm86_get na86 rfl (Nat.le_of_ble_eq_true rfl) ?_
      obtain ⟨u158, g157, hc159, hE⟩ := zbd_some hE
      refine y_invVv (j := 14) (As := [.int x1, .int r155]) (rest := []) (N := zm14) (F14 K 35 x1 r155 rw35 _ u158 g157 hc159 (d + 2)) k85_90 lk_0_186 zm14_get na14 rfl (Nat.le_of_ble_eq_true rfl) sh35 (by decide) rfl ?_
      refine y_iinc (v := (x1 + 1)) (ls2 := [some (.ref 0), some (.int (x1 + 1))]) k85_93 rfl rfl (by rw [oi_1]) rfl ?_
      refine y_goto (tgt := 42) k85_96 (by decide) ?_
      exact ih (x1 + 1) _ _ _ hE
theorem F85 {L : Nat} {xs : Nat → Int32} (K : Nat) (g : zS) (r : Int32) (g' : zS) (hE : f85 K  g = some (r, g')) (d : Nat) : zE2 L xs (d + 4) 85 [.ref 0] g (some (.int r)) g' := by
  refine y_ev (n := 0) (d := d + 3) (ls := [some (.ref 0), none]) zm85_get (by decide) (Nat.le_of_ble_eq_true rfl) rfl ?_
  unfold f85 at hE
  refine y_aload_n k85_0 rfl rfl ?_
  refine y_getR k85_1 fk_0_29 sh0 rfl ?_
  refine y_getI k85_4 fk_0_111 sh34 rfl ?_
  refine y_sipush (v := 999) k85_7 s16_999 ?_
  by_cases c164 : (g 34 0) < 999
  · rw [if_pos c164] at hE
    refine y_icT (tgt := 16) k85_10 (by decide) c164 ?_
    refine y_aload_n k85_16 rfl rfl ?_
    refine y_getR k85_17 fk_0_36 sh0 rfl ?_
    refine y_aload_n k85_20 rfl rfl ?_
    refine y_getR k85_21 fk_0_29 sh0 rfl ?_
    obtain ⟨u162, g161, hc163, hE⟩ := zbd_some hE
    refine y_invVv (j := 78) (As := [.ref 34]) (rest := []) (N := zm78) (F78 K 34 stt34 _ u162 g161 hc163 (d + 0)) k85_24 lk_0_179 zm78_get na78 rfl (Nat.le_of_ble_eq_true rfl) sh47 (by decide) rfl ?_
    refine y_aload_n k85_27 rfl rfl ?_
    refine y_getR k85_28 fk_0_29 sh0 rfl ?_
    refine y_dup k85_31 rfl ?_
    refine y_getI k85_32 fk_0_111 sh34 rfl ?_
    refine y_iconst (v := 1) k85_35 oi_1 ?_
    refine y_iadd k85_36 ?_
    refine y_putI k85_37 fk_0_111 sh34 rfl pi_4_0.1 pi_4_0.2 ?_
    refine y_iconst (v := 0) k85_40 oi_0 ?_
    refine y_istore_n (ls2 := [some (.ref 0), some (.int 0)]) k85_41 rfl (Nat.le_of_ble_eq_true rfl) rfl ?_
    exact F85_42 K K 0 _ _ _ hE
  · rw [if_neg c164] at hE
    refine y_icF 16 k85_10 (by decide) c164 ?_
    refine y_bipush (v := (-5)) k85_13 b8_m5 ?_
    obtain ⟨rfl, rfl⟩ := zpr hE
    exact y_iret k85_15 rfl
-- AdjectiveCoupons.trade
def f87 (K : Nat) (x1 : Int32) (x2 : Int32) (x3 : Int32) (x4 : Int32) (g : zS) : Option (Int32 × zS) := zbd (f88 K x1 x2 g) fun r144 g143 => if ¬ r144 = 0 then zbd (f12 K x3 1 60 g143) fun r147 g146 => if r147 = 0 then some ((-3), g146) else (zbd (f12 K x4 0 99 g146) fun r150 g149 => if ¬ r150 = 0 then zbd (f21 K 35 x1 g149) fun r153 g152 => if r153 < x3 then some ((-4), g152) else (zbd (f21 K 37 x2 g152) fun r156 g155 => if x4 ≤ r156 then zbd (f21 K 35 x2 g155) fun r159 g158 => if (r159 + x3) ≤ 60 then zbd (f78 K 34 g158) fun _ g161 => zbd (f82 K 35 x1 (-x3) g161) fun _ g164 => zbd (f82 K 35 x2 x3 g164) fun _ g167 => zbd (f82 K 37 x2 (-x4) g167) fun _ g170 => zbd (f82 K 37 x1 x4 g170) fun _ g173 => zbd (f21 K 35 x2 g173) fun r177 g176 => some (r177, g176) else (some ((-5), g158)) else (some ((-4), g155))) else (some ((-3), g149))) else (some ((-2), g143))
theorem F87 {L : Nat} {xs : Nat → Int32} (K : Nat) (x1 : Int32) (x2 : Int32) (x3 : Int32) (x4 : Int32) (g : zS) (r : Int32) (g' : zS) (hE : f87 K x1 x2 x3 x4 g = some (r, g')) (d : Nat) : zE2 L xs (d + 4) 87 [.ref 0, .int x1, .int x2, .int x3, .int x4] g (some (.int r)) g' := by
  refine y_ev (n := 0) (d := d + 3) (ls := [some (.ref 0), some (.int x1), some (.int x2), some (.int x3), some (.int x4)]) zm87_get (by decide) (Nat.le_of_ble_eq_true rfl) rfl ?_
  unfold f87 at hE
  refine y_aload_n k87_0 rfl rfl ?_
  refine y_iload_n k87_1 rfl ?_
  refine y_iload_n k87_2 rfl ?_
  obtain ⟨r144, g143, hc145, hE⟩ := zbd_some hE
  refine y_invVi (j := 88) (As := [.int x1, .int x2]) (rest := []) (N := zm88) (F88 K x1 x2 _ r144 g143 hc145 (d + 0)) k87_3 lk_0_201 zm88_get na88 rfl (Nat.le_of_ble_eq_true rfl) sh0 (by decide) rfl ?_
  by_cases c184 : ¬ r144 = 0
  · rw [if_pos c184] at hE
    refine y_ifT (tgt := 12) k87_6 (by decide) c184 ?_
    refine y_iload_n k87_12 rfl ?_
    refine y_iconst (v := 1) k87_13 oi_1 ?_
    refine y_bipush (v := 60) k87_14 b8_60 ?_
    obtain ⟨r147, g146, hc148, hE⟩ := zbd_some hE
    refine y_invSi (j := 12) (As := [.int x3, .int 1, .int 60]) (rest := []) (N := zm12) (F12 K x3 1 60 _ r147 g146 hc148 (d + 2)) k87_16 lk_0_68 zm12_get na12 rfl (Nat.le_of_ble_eq_true rfl) ?_
    by_cases c183 : r147 = 0
    · rw [if_pos c183] at hE
      refine y_ifT (tgt := 33) k87_19 (by decide) c183 ?_
      refine y_bipush (v := (-3)) k87_33 b8_m3 ?_
      obtain ⟨rfl, rfl⟩ := zpr hE
      exact y_iret k87_35 rfl
    · rw [if_neg c183] at hE
      refine y_ifF 33 k87_19 (by decide) c183 ?_
      refine y_iload k87_22 rfl ?_
      refine y_iconst (v := 0) k87_24 oi_0 ?_
      refine y_bipush (v := 99) k87_25 b8_99 ?_
      obtain ⟨r150, g149, hc151, hE⟩ := zbd_some hE
      refine y_invSi (j := 12) (As := [.int x4, .int 0, .int 99]) (rest := []) (N := zm12) (F12 K x4 0 99 _ r150 g149 hc151 (d + 2)) k87_27 lk_0_68 zm12_get na12 rfl (Nat.le_of_ble_eq_true rfl) ?_
      by_cases c182 : ¬ r150 = 0
      · rw [if_pos c182] at hE
        refine y_ifT (tgt := 36) k87_30 (by decide) c182 ?_
        refine y_aload_n k87_36 rfl rfl ?_
        refine y_getR k87_37 fk_0_29 sh0 rfl ?_
        refine y_getR k87_40 fk_0_140 sh34 rfl ?_
        refine y_iload_n k87_43 rfl ?_
        obtain ⟨r153, g152, hc154, hE⟩ := zbd_some hE
        refine y_invVi (j := 21) (As := [.int x1]) (rest := []) (N := zm21) (F21 K 35 x1 rw35 _ r153 g152 hc154 (d + 2)) k87_44 lk_0_122 zm21_get na21 rfl (Nat.le_of_ble_eq_true rfl) sh35 (by decide) rfl ?_
        refine y_iload_n k87_47 rfl ?_
        by_cases c181 : r153 < x3
        · rw [if_pos c181] at hE
          refine y_icT (tgt := 67) k87_48 (by decide) c181 ?_
          refine y_bipush (v := (-4)) k87_67 b8_m4 ?_
          obtain ⟨rfl, rfl⟩ := zpr hE
          exact y_iret k87_69 rfl
        · rw [if_neg c181] at hE
          refine y_icF 67 k87_48 (by decide) c181 ?_
          refine y_aload_n k87_51 rfl rfl ?_
          refine y_getR k87_52 fk_0_29 sh0 rfl ?_
          refine y_getR k87_55 fk_0_143 sh34 rfl ?_
          refine y_iload_n k87_58 rfl ?_
          obtain ⟨r156, g155, hc157, hE⟩ := zbd_some hE
          refine y_invVi (j := 21) (As := [.int x2]) (rest := []) (N := zm21) (F21 K 37 x2 rw37 _ r156 g155 hc157 (d + 2)) k87_59 lk_0_122 zm21_get na21 rfl (Nat.le_of_ble_eq_true rfl) sh37 (by decide) rfl ?_
          refine y_iload k87_62 rfl ?_
          by_cases c180 : x4 ≤ r156
          · rw [if_pos c180] at hE
            refine y_icT (tgt := 70) k87_64 (by decide) c180 ?_
            refine y_aload_n k87_70 rfl rfl ?_
            refine y_getR k87_71 fk_0_29 sh0 rfl ?_
            refine y_getR k87_74 fk_0_140 sh34 rfl ?_
            refine y_iload_n k87_77 rfl ?_
            obtain ⟨r159, g158, hc160, hE⟩ := zbd_some hE
            refine y_invVi (j := 21) (As := [.int x2]) (rest := []) (N := zm21) (F21 K 35 x2 rw35 _ r159 g158 hc160 (d + 2)) k87_78 lk_0_122 zm21_get na21 rfl (Nat.le_of_ble_eq_true rfl) sh35 (by decide) rfl ?_
            refine y_iload_n k87_81 rfl ?_
            refine y_iadd k87_82 ?_
            refine y_bipush (v := 60) k87_83 b8_60 ?_
            by_cases c179 : (r159 + x3) ≤ 60
            · rw [if_pos c179] at hE
              refine y_icT (tgt := 91) k87_85 (by decide) c179 ?_
              refine y_aload_n k87_91 rfl rfl ?_
              refine y_getR k87_92 fk_0_36 sh0 rfl ?_
              refine y_aload_n k87_95 rfl rfl ?_
              refine y_getR k87_96 fk_0_29 sh0 rfl ?_
              obtain ⟨u162, g161, hc163, hE⟩ := zbd_some hE
              refine y_invVv (j := 78) (As := [.ref 34]) (rest := []) (N := zm78) (F78 K 34 stt34 _ u162 g161 hc163 (d + 0)) k87_99 lk_0_179 zm78_get na78 rfl (Nat.le_of_ble_eq_true rfl) sh47 (by decide) rfl ?_
              refine y_aload_n k87_102 rfl rfl ?_
              refine y_getR k87_103 fk_0_29 sh0 rfl ?_
              refine y_getR k87_106 fk_0_140 sh34 rfl ?_
              refine y_iload_n k87_109 rfl ?_
              refine y_iload_n k87_110 rfl ?_
              refine y_ineg k87_111 ?_
              obtain ⟨u165, g164, hc166, hE⟩ := zbd_some hE
              refine y_invVv (j := 82) (As := [.int x1, .int (-x3)]) (rest := []) (N := zm82) (F82 K 35 x1 (-x3) rw35 _ u165 g164 hc166 (d + 1)) k87_112 lk_0_183 zm82_get na82 rfl (Nat.le_of_ble_eq_true rfl) sh35 (by decide) rfl ?_
              refine y_aload_n k87_115 rfl rfl ?_
              refine y_getR k87_116 fk_0_29 sh0 rfl ?_
              refine y_getR k87_119 fk_0_140 sh34 rfl ?_
              refine y_iload_n k87_122 rfl ?_
              refine y_iload_n k87_123 rfl ?_
              obtain ⟨u168, g167, hc169, hE⟩ := zbd_some hE
              refine y_invVv (j := 82) (As := [.int x2, .int x3]) (rest := []) (N := zm82) (F82 K 35 x2 x3 rw35 _ u168 g167 hc169 (d + 1)) k87_124 lk_0_183 zm82_get na82 rfl (Nat.le_of_ble_eq_true rfl) sh35 (by decide) rfl ?_
              refine y_aload_n k87_127 rfl rfl ?_
              refine y_getR k87_128 fk_0_29 sh0 rfl ?_
              refine y_getR k87_131 fk_0_143 sh34 rfl ?_
              refine y_iload_n k87_134 rfl ?_
              refine y_iload k87_135 rfl ?_
              refine y_ineg k87_137 ?_
              obtain ⟨u171, g170, hc172, hE⟩ := zbd_some hE
              refine y_invVv (j := 82) (As := [.int x2, .int (-x4)]) (rest := []) (N := zm82) (F82 K 37 x2 (-x4) rw37 _ u171 g170 hc172 (d + 1)) k87_138 lk_0_183 zm82_get na82 rfl (Nat.le_of_ble_eq_true rfl) sh37 (by decide) rfl ?_
              refine y_aload_n k87_141 rfl rfl ?_
              refine y_getR k87_142 fk_0_29 sh0 rfl ?_
              refine y_getR k87_145 fk_0_143 sh34 rfl ?_
              refine y_iload_n k87_148 rfl ?_
              refine y_iload k87_149 rfl ?_
              obtain ⟨u174, g173, hc175, hE⟩ := zbd_some hE
              refine y_invVv (j := 82) (As := [.int x1, .int x4]) (rest := []) (N := zm82) (F82 K 37 x1 x4 rw37 _ u174 g173 hc175 (d + 1)) k87_151 lk_0_183 zm82_get na82 rfl (Nat.le_of_ble_eq_true rfl) sh37 (by decide) rfl ?_
              refine y_aload_n k87_154 rfl rfl ?_
              refine y_getR k87_155 fk_0_29 sh0 rfl ?_
              refine y_getR k87_158 fk_0_140 sh34 rfl ?_
              refine y_iload_n k87_161 rfl ?_
              obtain ⟨r177, g176, hc178, hE⟩ := zbd_some hE
              refine y_invVi (j := 21) (As := [.int x2]) (rest := []) (N := zm21) (F21 K 35 x2 rw35 _ r177 g176 hc178 (d + 2)) k87_162 lk_0_122 zm21_get na21 rfl (Nat.le_of_ble_eq_true rfl) sh35 (by decide) rfl ?_
              obtain ⟨rfl, rfl⟩ := zpr hE
              exact y_iret k87_165 rfl
            · rw [if_neg c179] at hE
              refine y_icF 91 k87_85 (by decide) c179 ?_
              refine y_bipush (v := (-5)) k87_88 b8_m5 ?_
              obtain ⟨rfl, rfl⟩ := zpr hE
              exact y_iret k87_90 rfl
          · rw [if_neg c180] at hE
            refine y_icF 70 k87_64 (by decide) c180 ?_
            refine y_bipush (v := (-4)) k87_67 b8_m4 ?_
            obtain ⟨rfl, rfl⟩ := zpr hE
            exact y_iret k87_69 rfl
      · rw [if_neg c182] at hE
        refine y_ifF 36 k87_30 (by decide) c182 ?_
        refine y_bipush (v := (-3)) k87_33 b8_m3 ?_
        obtain ⟨rfl, rfl⟩ := zpr hE
        exact y_iret k87_35 rfl
  · rw [if_neg c184] at hE
    refine y_ifF 12 k87_6 (by decide) c184 ?_
    refine y_bipush (v := (-2)) k87_9 b8_m2 ?_
    obtain ⟨rfl, rfl⟩ := zpr hE
    exact y_iret k87_11 rfl
-- AdjectiveCoupons.owe
def f89 (K : Nat) (x1 : Int32) (x2 : Int32) (x3 : Int32) (g : zS) : Option (Int32 × zS) := zbd (f88 K x1 x2 g) fun r120 g119 => if ¬ r120 = 0 then zbd (f12 K x3 1 99 g119) fun r123 g122 => if ¬ r123 = 0 then zbd (f90 K 34 x1 x2 g122) fun r126 g125 => if (r126 + x3) ≤ 999 then zbd (f78 K 34 g125) fun _ g128 => zbd (f91 K 34 x1 x2 (r126 + x3) g128) fun _ g131 => some ((r126 + x3), g131) else (some ((-5), g125)) else (some ((-3), g122)) else (some ((-2), g119))
theorem F89 {L : Nat} {xs : Nat → Int32} (K : Nat) (x1 : Int32) (x2 : Int32) (x3 : Int32) (g : zS) (r : Int32) (g' : zS) (hE : f89 K x1 x2 x3 g = some (r, g')) (d : Nat) : zE2 L xs (d + 4) 89 [.ref 0, .int x1, .int x2, .int x3] g (some (.int r)) g' := by
  refine y_ev (n := 0) (d := d + 3) (ls := [some (.ref 0), some (.int x1), some (.int x2), some (.int x3), none]) zm89_get (by decide) (Nat.le_of_ble_eq_true rfl) rfl ?_
  unfold f89 at hE
  refine y_aload_n k89_0 rfl rfl ?_
  refine y_iload_n k89_1 rfl ?_
  refine y_iload_n k89_2 rfl ?_
  obtain ⟨r120, g119, hc121, hE⟩ := zbd_some hE
  refine y_invVi (j := 88) (As := [.int x1, .int x2]) (rest := []) (N := zm88) (F88 K x1 x2 _ r120 g119 hc121 (d + 0)) k89_3 lk_0_201 zm88_get na88 rfl (Nat.le_of_ble_eq_true rfl) sh0 (by decide) rfl ?_
  by_cases c136 : ¬ r120 = 0
  · rw [if_pos c136] at hE
    refine y_ifT (tgt := 12) k89_6 (by decide) c136 ?_
    refine y_iload_n k89_12 rfl ?_
    refine y_iconst (v := 1) k89_13 oi_1 ?_
    refine y_bipush (v := 99) k89_14 b8_99 ?_
    obtain ⟨r123, g122, hc124, hE⟩ := zbd_some hE
    refine y_invSi (j := 12) (As := [.int x3, .int 1, .int 99]) (rest := []) (N := zm12) (F12 K x3 1 99 _ r123 g122 hc124 (d + 2)) k89_16 lk_0_68 zm12_get na12 rfl (Nat.le_of_ble_eq_true rfl) ?_
    by_cases c135 : ¬ r123 = 0
    · rw [if_pos c135] at hE
      refine y_ifT (tgt := 25) k89_19 (by decide) c135 ?_
      refine y_aload_n k89_25 rfl rfl ?_
      refine y_getR k89_26 fk_0_29 sh0 rfl ?_
      refine y_iload_n k89_29 rfl ?_
      refine y_iload_n k89_30 rfl ?_
      obtain ⟨r126, g125, hc127, hE⟩ := zbd_some hE
      refine y_invVi (j := 90) (As := [.int x1, .int x2]) (rest := []) (N := zm90) (F90 K 34 x1 x2 stt34 _ r126 g125 hc127 (d + 1)) k89_31 lk_0_204 zm90_get na90 rfl (Nat.le_of_ble_eq_true rfl) sh34 (by decide) rfl ?_
      refine y_iload_n k89_34 rfl ?_
      refine y_iadd k89_35 ?_
      refine y_istore (ls2 := [some (.ref 0), some (.int x1), some (.int x2), some (.int x3), some (.int (r126 + x3))]) k89_36 rfl (Nat.le_of_ble_eq_true rfl) rfl ?_
      refine y_iload k89_38 rfl ?_
      refine y_sipush (v := 999) k89_40 s16_999 ?_
      by_cases c134 : (r126 + x3) ≤ 999
      · rw [if_pos c134] at hE
        refine y_icT (tgt := 49) k89_43 (by decide) c134 ?_
        refine y_aload_n k89_49 rfl rfl ?_
        refine y_getR k89_50 fk_0_36 sh0 rfl ?_
        refine y_aload_n k89_53 rfl rfl ?_
        refine y_getR k89_54 fk_0_29 sh0 rfl ?_
        obtain ⟨u129, g128, hc130, hE⟩ := zbd_some hE
        refine y_invVv (j := 78) (As := [.ref 34]) (rest := []) (N := zm78) (F78 K 34 stt34 _ u129 g128 hc130 (d + 0)) k89_57 lk_0_179 zm78_get na78 rfl (Nat.le_of_ble_eq_true rfl) sh47 (by decide) rfl ?_
        refine y_aload_n k89_60 rfl rfl ?_
        refine y_getR k89_61 fk_0_29 sh0 rfl ?_
        refine y_iload_n k89_64 rfl ?_
        refine y_iload_n k89_65 rfl ?_
        refine y_iload k89_66 rfl ?_
        obtain ⟨u132, g131, hc133, hE⟩ := zbd_some hE
        refine y_invVv (j := 91) (As := [.int x1, .int x2, .int (r126 + x3)]) (rest := []) (N := zm91) (F91 K 34 x1 x2 (r126 + x3) stt34 _ u132 g131 hc133 (d + 1)) k89_68 lk_0_207 zm91_get na91 rfl (Nat.le_of_ble_eq_true rfl) sh34 (by decide) rfl ?_
        refine y_iload k89_71 rfl ?_
        obtain ⟨rfl, rfl⟩ := zpr hE
        exact y_iret k89_73 rfl
      · rw [if_neg c134] at hE
        refine y_icF 49 k89_43 (by decide) c134 ?_
        refine y_bipush (v := (-5)) k89_46 b8_m5 ?_
        obtain ⟨rfl, rfl⟩ := zpr hE
        exact y_iret k89_48 rfl
    · rw [if_neg c135] at hE
      refine y_ifF 25 k89_19 (by decide) c135 ?_
      refine y_bipush (v := (-3)) k89_22 b8_m3 ?_
      obtain ⟨rfl, rfl⟩ := zpr hE
      exact y_iret k89_24 rfl
  · rw [if_neg c136] at hE
    refine y_ifF 12 k89_6 (by decide) c136 ?_
    refine y_bipush (v := (-2)) k89_9 b8_m2 ?_
    obtain ⟨rfl, rfl⟩ := zpr hE
    exact y_iret k89_11 rfl
-- AdjectiveCoupons.owes
def f92 (K : Nat) (x1 : Int32) (x2 : Int32) (g : zS) : Option (Int32 × zS) := zbd (f88 K x1 x2 g) fun r109 g108 => if r109 = 0 then some ((-2), g108) else (zbd (f90 K 34 x1 x2 g108) fun r112 g111 => some (r112, g111))
theorem F92 {L : Nat} {xs : Nat → Int32} (K : Nat) (x1 : Int32) (x2 : Int32) (g : zS) (r : Int32) (g' : zS) (hE : f92 K x1 x2 g = some (r, g')) (d : Nat) : zE2 L xs (d + 4) 92 [.ref 0, .int x1, .int x2] g (some (.int r)) g' := by
  refine y_ev (n := 0) (d := d + 3) (ls := [some (.ref 0), some (.int x1), some (.int x2)]) zm92_get (by decide) (Nat.le_of_ble_eq_true rfl) rfl ?_
  unfold f92 at hE
  refine y_aload_n k92_0 rfl rfl ?_
  refine y_iload_n k92_1 rfl ?_
  refine y_iload_n k92_2 rfl ?_
  obtain ⟨r109, g108, hc110, hE⟩ := zbd_some hE
  refine y_invVi (j := 88) (As := [.int x1, .int x2]) (rest := []) (N := zm88) (F88 K x1 x2 _ r109 g108 hc110 (d + 0)) k92_3 lk_0_201 zm88_get na88 rfl (Nat.le_of_ble_eq_true rfl) sh0 (by decide) rfl ?_
  by_cases c114 : r109 = 0
  · rw [if_pos c114] at hE
    refine y_ifT (tgt := 21) k92_6 (by decide) c114 ?_
    refine y_bipush (v := (-2)) k92_21 b8_m2 ?_
    obtain ⟨rfl, rfl⟩ := zpr hE
    exact y_iret k92_23 rfl
  · rw [if_neg c114] at hE
    refine y_ifF 21 k92_6 (by decide) c114 ?_
    refine y_aload_n k92_9 rfl rfl ?_
    refine y_getR k92_10 fk_0_29 sh0 rfl ?_
    refine y_iload_n k92_13 rfl ?_
    refine y_iload_n k92_14 rfl ?_
    obtain ⟨r112, g111, hc113, hE⟩ := zbd_some hE
    refine y_invVi (j := 90) (As := [.int x1, .int x2]) (rest := []) (N := zm90) (F90 K 34 x1 x2 stt34 _ r112 g111 hc113 (d + 1)) k92_15 lk_0_204 zm90_get na90 rfl (Nat.le_of_ble_eq_true rfl) sh34 (by decide) rfl ?_
    refine y_goto (tgt := 23) k92_18 (by decide) ?_
    obtain ⟨rfl, rfl⟩ := zpr hE
    exact y_iret k92_23 rfl
-- AdjectiveCoupons.undo
def f93 (K : Nat) (g : zS) : Option (Int32 × zS) := zbd (f94 K 34 g) fun r106 g105 => if r106 = 0 then some ((-4), g105) else (some ((g105 47 3), g105))
theorem F93 {L : Nat} {xs : Nat → Int32} (K : Nat) (g : zS) (r : Int32) (g' : zS) (hE : f93 K  g = some (r, g')) (d : Nat) : zE2 L xs (d + 4) 93 [.ref 0] g (some (.int r)) g' := by
  refine y_ev (n := 0) (d := d + 3) (ls := [some (.ref 0)]) zm93_get (by decide) (Nat.le_of_ble_eq_true rfl) rfl ?_
  unfold f93 at hE
  refine y_aload_n k93_0 rfl rfl ?_
  refine y_getR k93_1 fk_0_36 sh0 rfl ?_
  refine y_aload_n k93_4 rfl rfl ?_
  refine y_getR k93_5 fk_0_29 sh0 rfl ?_
  obtain ⟨r106, g105, hc107, hE⟩ := zbd_some hE
  refine y_invVi (j := 94) (As := [.ref 34]) (rest := []) (N := zm94) (F94 K 34 stt34 _ r106 g105 hc107 (d + 0)) k93_8 lk_0_211 zm94_get na94 rfl (Nat.le_of_ble_eq_true rfl) sh47 (by decide) rfl ?_
  by_cases c108 : r106 = 0
  · rw [if_pos c108] at hE
    refine y_ifT (tgt := 24) k93_11 (by decide) c108 ?_
    refine y_bipush (v := (-4)) k93_24 b8_m4 ?_
    obtain ⟨rfl, rfl⟩ := zpr hE
    exact y_iret k93_26 rfl
  · rw [if_neg c108] at hE
    refine y_ifF 24 k93_11 (by decide) c108 ?_
    refine y_aload_n k93_14 rfl rfl ?_
    refine y_getR k93_15 fk_0_36 sh0 rfl ?_
    refine y_getI k93_18 fk_0_215 sh47 rfl ?_
    refine y_goto (tgt := 26) k93_21 (by decide) ?_
    obtain ⟨rfl, rfl⟩ := zpr hE
    exact y_iret k93_26 rfl
-- AdjectiveCoupons.keep
def f95 (K : Nat) (x1 : Int32) (g : zS) : Option (Int32 × zS) := zbd (f12 K x1 0 1 g) fun r109 g108 => if ¬ r109 = 0 then zbd (f96 K x1 34 g108) fun _ g111 => some ((g111 34 0), g111) else (some ((-2), g108))
theorem F95 {L : Nat} {xs : Nat → Int32} (K : Nat) (x1 : Int32) (g : zS) (r : Int32) (g' : zS) (hE : f95 K x1 g = some (r, g')) (d : Nat) : zE2 L xs (d + 4) 95 [.ref 0, .int x1] g (some (.int r)) g' := by
  refine y_ev (n := 0) (d := d + 3) (ls := [some (.ref 0), some (.int x1)]) zm95_get (by decide) (Nat.le_of_ble_eq_true rfl) rfl ?_
  unfold f95 at hE
  refine y_iload_n k95_0 rfl ?_
  refine y_iconst (v := 0) k95_1 oi_0 ?_
  refine y_iconst (v := 1) k95_2 oi_1 ?_
  obtain ⟨r109, g108, hc110, hE⟩ := zbd_some hE
  refine y_invSi (j := 12) (As := [.int x1, .int 0, .int 1]) (rest := []) (N := zm12) (F12 K x1 0 1 _ r109 g108 hc110 (d + 2)) k95_3 lk_0_68 zm12_get na12 rfl (Nat.le_of_ble_eq_true rfl) ?_
  by_cases c114 : ¬ r109 = 0
  · rw [if_pos c114] at hE
    refine y_ifT (tgt := 12) k95_6 (by decide) c114 ?_
    refine y_aload_n k95_12 rfl rfl ?_
    refine y_getR k95_13 fk_0_36 sh0 rfl ?_
    refine y_iload_n k95_16 rfl ?_
    refine y_aload_n k95_17 rfl rfl ?_
    refine y_getR k95_18 fk_0_29 sh0 rfl ?_
    obtain ⟨u112, g111, hc113, hE⟩ := zbd_some hE
    refine y_invVv (j := 96) (As := [.int x1, .ref 34]) (rest := []) (N := zm96) (F96 K x1 34 stt34 _ u112 g111 hc113 (d + 0)) k95_21 lk_0_216 zm96_get na96 rfl (Nat.le_of_ble_eq_true rfl) sh47 (by decide) rfl ?_
    refine y_aload_n k95_24 rfl rfl ?_
    refine y_getR k95_25 fk_0_29 sh0 rfl ?_
    refine y_getI k95_28 fk_0_111 sh34 rfl ?_
    obtain ⟨rfl, rfl⟩ := zpr hE
    exact y_iret k95_31 rfl
  · rw [if_neg c114] at hE
    refine y_ifF 12 k95_6 (by decide) c114 ?_
    refine y_bipush (v := (-2)) k95_9 b8_m2 ?_
    obtain ⟨rfl, rfl⟩ := zpr hE
    exact y_iret k95_11 rfl
-- AdjectiveCoupons.back
def f97 (K : Nat) (x1 : Int32) (g : zS) : Option (Int32 × zS) := zbd (f12 K x1 0 1 g) fun r110 g109 => if ¬ r110 = 0 then zbd (f98 K x1 34 g109) fun r113 g112 => if r113 = 0 then some ((-4), g112) else (some ((g112 34 0), g112)) else (some ((-2), g109))
theorem F97 {L : Nat} {xs : Nat → Int32} (K : Nat) (x1 : Int32) (g : zS) (r : Int32) (g' : zS) (hE : f97 K x1 g = some (r, g')) (d : Nat) : zE2 L xs (d + 4) 97 [.ref 0, .int x1] g (some (.int r)) g' := by
  refine y_ev (n := 0) (d := d + 3) (ls := [some (.ref 0), some (.int x1)]) zm97_get (by decide) (Nat.le_of_ble_eq_true rfl) rfl ?_
  unfold f97 at hE
  refine y_iload_n k97_0 rfl ?_
  refine y_iconst (v := 0) k97_1 oi_0 ?_
  refine y_iconst (v := 1) k97_2 oi_1 ?_
  obtain ⟨r110, g109, hc111, hE⟩ := zbd_some hE
  refine y_invSi (j := 12) (As := [.int x1, .int 0, .int 1]) (rest := []) (N := zm12) (F12 K x1 0 1 _ r110 g109 hc111 (d + 2)) k97_3 lk_0_68 zm12_get na12 rfl (Nat.le_of_ble_eq_true rfl) ?_
  by_cases c116 : ¬ r110 = 0
  · rw [if_pos c116] at hE
    refine y_ifT (tgt := 12) k97_6 (by decide) c116 ?_
    refine y_aload_n k97_12 rfl rfl ?_
    refine y_getR k97_13 fk_0_36 sh0 rfl ?_
    refine y_iload_n k97_16 rfl ?_
    refine y_aload_n k97_17 rfl rfl ?_
    refine y_getR k97_18 fk_0_29 sh0 rfl ?_
    obtain ⟨r113, g112, hc114, hE⟩ := zbd_some hE
    refine y_invVi (j := 98) (As := [.int x1, .ref 34]) (rest := []) (N := zm98) (F98 K x1 34 stt34 _ r113 g112 hc114 (d + 0)) k97_21 lk_0_220 zm98_get na98 rfl (Nat.le_of_ble_eq_true rfl) sh47 (by decide) rfl ?_
    by_cases c115 : r113 = 0
    · rw [if_pos c115] at hE
      refine y_ifT (tgt := 37) k97_24 (by decide) c115 ?_
      refine y_bipush (v := (-4)) k97_37 b8_m4 ?_
      obtain ⟨rfl, rfl⟩ := zpr hE
      exact y_iret k97_39 rfl
    · rw [if_neg c115] at hE
      refine y_ifF 37 k97_24 (by decide) c115 ?_
      refine y_aload_n k97_27 rfl rfl ?_
      refine y_getR k97_28 fk_0_29 sh0 rfl ?_
      refine y_getI k97_31 fk_0_111 sh34 rfl ?_
      refine y_goto (tgt := 39) k97_34 (by decide) ?_
      obtain ⟨rfl, rfl⟩ := zpr hE
      exact y_iret k97_39 rfl
  · rw [if_neg c116] at hE
    refine y_ifF 12 k97_6 (by decide) c116 ?_
    refine y_bipush (v := (-2)) k97_9 b8_m2 ?_
    obtain ⟨rfl, rfl⟩ := zpr hE
    exact y_iret k97_11 rfl
-- AdjectiveCoupons.draft
def f118 (K : Nat) (g : zS) : Option (Int32 × zS) := zbd (f76 K 180 g) fun r110 g109 => if ¬ r110 = 0 then zbd (f119 K 180 g109) fun r113 g112 => if r113 = 0 then some ((-5), g112) else (some ((g112 186 4), g112)) else (some ((-4), g109))
theorem F118 {L : Nat} {xs : Nat → Int32} (K : Nat) (g : zS) (r : Int32) (g' : zS) (hE : f118 K  g = some (r, g')) (d : Nat) : zE2 L xs (d + 4) 118 [.ref 0] g (some (.int r)) g' := by
  refine y_ev (n := 0) (d := d + 3) (ls := [some (.ref 0)]) zm118_get (by decide) (Nat.le_of_ble_eq_true rfl) rfl ?_
  unfold f118 at hE
  refine y_aload_n k118_0 rfl rfl ?_
  refine y_getR k118_1 fk_0_43 sh0 rfl ?_
  obtain ⟨r110, g109, hc111, hE⟩ := zbd_some hE
  refine y_invVi (j := 76) (As := []) (rest := []) (N := zm76) (F76 K 180 li180 _ r110 g109 hc111 (d + 0)) k118_4 lk_0_175 zm76_get na76 rfl (Nat.le_of_ble_eq_true rfl) sh180 (by decide) rfl ?_
  by_cases c116 : ¬ r110 = 0
  · rw [if_pos c116] at hE
    refine y_ifT (tgt := 13) k118_7 (by decide) c116 ?_
    refine y_aload_n k118_13 rfl rfl ?_
    refine y_getR k118_14 fk_0_57 sh0 rfl ?_
    refine y_aload_n k118_17 rfl rfl ?_
    refine y_getR k118_18 fk_0_43 sh0 rfl ?_
    obtain ⟨r113, g112, hc114, hE⟩ := zbd_some hE
    refine y_invVi (j := 119) (As := [.ref 180]) (rest := []) (N := zm119) (F119 K 180 li180 _ r113 g112 hc114 (d + 0)) k118_21 lk_0_263 zm119_get na119 rfl (Nat.le_of_ble_eq_true rfl) sh186 (by decide) rfl ?_
    by_cases c115 : r113 = 0
    · rw [if_pos c115] at hE
      refine y_ifT (tgt := 37) k118_24 (by decide) c115 ?_
      refine y_bipush (v := (-5)) k118_37 b8_m5 ?_
      obtain ⟨rfl, rfl⟩ := zpr hE
      exact y_iret k118_39 rfl
    · rw [if_neg c115] at hE
      refine y_ifF 37 k118_24 (by decide) c115 ?_
      refine y_aload_n k118_27 rfl rfl ?_
      refine y_getR k118_28 fk_0_57 sh0 rfl ?_
      refine y_getI k118_31 fk_0_102 sh186 rfl ?_
      refine y_goto (tgt := 39) k118_34 (by decide) ?_
      obtain ⟨rfl, rfl⟩ := zpr hE
      exact y_iret k118_39 rfl
  · rw [if_neg c116] at hE
    refine y_ifF 13 k118_7 (by decide) c116 ?_
    refine y_bipush (v := (-4)) k118_10 b8_m4 ?_
    obtain ⟨rfl, rfl⟩ := zpr hE
    exact y_iret k118_12 rfl
-- AdjectiveCoupons$Drafts.weigh
def f124_2 (K : Nat) : Nat → Nat → Int32 → zS → Option (Unit × zS)
  | 0, _, _, _ => none
  | n + 1, o1, x2, g => if (g 186 4) ≤ x2 then some ((), g) else (zbd (f120 K x2 g) fun q135 g134 => zbd (f83 K o1 q135 g134) fun r139 g138 => zbd (f14 K 193 x2 r139 g138) fun _ g141 => (f124_2 K n) o1 (x2 + 1) g141)
def f124 (K : Nat) (o1 : Nat) (g : zS) : Option (Unit × zS) := f124_2 K K o1 0 g
theorem F124_2 {L : Nat} {xs : Nat → Int32} {d : Nat} (K : Nat) : ∀ (n : Nat) (o1 : Nat) (x2 : Int32) (h1 : zTold o1) (g : zS) (r : Unit) (g' : zS) (hE : f124_2 K n o1 x2 g = some (r, g')), zG2 L xs (d + 3) zm124 2 [some (.ref 186), some (.ref o1), some (.int x2)] [] g none g' := by
  intro n
  induction n with
  | zero => intro o1 x2 h1 g r g' hE; cases hE
  | succ n ih =>
    intro o1 x2 h1 g r g' hE
    rw [f124_2] at hE
    refine y_iload_n k124_2 rfl ?_
    refine y_aload_n k124_3 rfl rfl ?_
    refine y_getI k124_4 fk_8_34 sh186 rfl ?_
    by_cases c144 : (g 186 4) ≤ x2
    · rw [if_pos c144] at hE
      refine y_icT (tgt := 33) k124_7 (by decide) c144 ?_
      obtain ⟨rfl, rfl⟩ := zpr hE
      exact y_vret k124_33 rfl
    · rw [if_neg c144] at hE
      refine y_icF 33 k124_7 (by decide) c144 ?_
      refine y_aload_n k124_10 rfl rfl ?_
      refine y_getR k124_11 fk_8_31 sh186 rfl ?_
      refine y_iload_n k124_14 rfl ?_
      refine y_aload_n k124_15 rfl rfl ?_
      refine y_aload_n k124_16 rfl rfl ?_
      refine y_iload_n k124_17 rfl ?_
      obtain ⟨q135, g134, hc136, hE⟩ := zbd_some hE
      have hz137 := P120 hc136
      refine y_invVn (j := 120) (As := [.int x2]) (rest := [.ref o1, .int x2, .ref 193]) (N := zm120) (F120 K x2 _ q135 g134 hc136 (d + 2)) k124_18 lk_8_38 zm120_get na120 rfl (Nat.le_of_ble_eq_true rfl) sh186 (by decide) rfl ?_
      obtain ⟨r139, g138, hc140, hE⟩ := zbd_some hE
      refine y_invVi (j := 83) (As := [.ref q135]) (rest := [.int x2, .ref 193]) (N := zm83) (F83 K o1 q135 h1 hz137 _ r139 g138 hc140 (d + 0)) k124_21 lk_8_46 zm83_get na83 rfl (Nat.le_of_ble_eq_true rfl) h1.1 (by decide) rfl ?_
      obtain ⟨u142, g141, hc143, hE⟩ := zbd_some hE
      refine y_invVv (j := 14) (As := [.int x2, .int r139]) (rest := []) (N := zm14) (F14 K 193 x2 r139 rw193 _ u142 g141 hc143 (d + 2)) k124_24 lk_8_52 zm14_get na14 rfl (Nat.le_of_ble_eq_true rfl) sh193 (by decide) rfl ?_
      refine y_iinc (v := (x2 + 1)) (ls2 := [some (.ref 186), some (.ref o1), some (.int (x2 + 1))]) k124_27 rfl rfl (by rw [oi_1]) rfl ?_
      refine y_goto (tgt := 2) k124_30 (by decide) ?_
      exact ih o1 (x2 + 1) h1 _ _ _ hE
theorem F124 {L : Nat} {xs : Nat → Int32} (K : Nat) (o1 : Nat) (h1 : zTold o1) (g : zS) (r : Unit) (g' : zS) (hE : f124 K o1 g = some (r, g')) (d : Nat) : zE2 L xs (d + 4) 124 [.ref 186, .ref o1] g none g' := by
  refine y_ev (n := 0) (d := d + 3) (ls := [some (.ref 186), some (.ref o1), none]) zm124_get (by decide) (Nat.le_of_ble_eq_true rfl) rfl ?_
  unfold f124 at hE
  refine y_iconst (v := 0) k124_0 oi_0 ?_
  refine y_istore_n (ls2 := [some (.ref 186), some (.ref o1), some (.int 0)]) k124_1 rfl (Nat.le_of_ble_eq_true rfl) rfl ?_
  exact F124_2 K K o1 0 h1 _ _ _ hE
-- AdjectiveCoupons$Drafts.choosePage
def f126_40 (K : Nat) (k12 : Int32 → Int32 → zS → Option (Unit × zS)) (x1 : Int32) (x2 : Int32) (g : zS) : Option (Unit × zS) := k12 x1 (x2 + 1) g
def f126_12 (K : Nat) : Nat → Int32 → Int32 → zS → Option (Unit × zS)
  | 0, _, _, _ => none
  | n + 1, x1, x2, g => if (1 <<< ((g 186 4) &&& 31)) ≤ x2 then some ((), g) else (zbd (f127 K 191 x2 g) fun r126 g125 => if x1 < r126 then f126_40 K (f126_12 K n) x1 x2 g125 else (zbd (f128 K x2 g125) fun _ g128 => f126_40 K (f126_12 K n) x1 x2 g128))
def f126 (K : Nat) (x1 : Int32) (g : zS) : Option (Unit × zS) := f126_12 K K x1 0 (zup (zup g 186 5 0) 186 6 0)
theorem F126_40 {L : Nat} {xs : Nat → Int32} {d : Nat} (K : Nat) (k12 : Int32 → Int32 → zS → Option (Unit × zS)) (hk12 : ∀ (x1 : Int32) (x2 : Int32) (g : zS) (r : Unit) (g' : zS), k12 x1 x2 g = some (r, g') → zG2 L xs (d + 3) zm126 12 [some (.ref 186), some (.int x1), some (.int x2)] [] g none g') (x1 : Int32) (x2 : Int32) (g : zS) (r : Unit) (g' : zS) (hE : f126_40 K k12 x1 x2 g = some (r, g')) : zG2 L xs (d + 3) zm126 40 [some (.ref 186), some (.int x1), some (.int x2)] [] g none g' := by
  unfold f126_40 at hE
  refine y_iinc (v := (x2 + 1)) (ls2 := [some (.ref 186), some (.int x1), some (.int (x2 + 1))]) k126_40 rfl rfl (by rw [oi_1]) rfl ?_
  refine y_goto (tgt := 12) k126_43 (by decide) ?_
  exact hk12 x1 (x2 + 1) _ _ _ hE
theorem F126_12 {L : Nat} {xs : Nat → Int32} {d : Nat} (K : Nat) : ∀ (n : Nat) (x1 : Int32) (x2 : Int32) (g : zS) (r : Unit) (g' : zS) (hE : f126_12 K n x1 x2 g = some (r, g')), zG2 L xs (d + 3) zm126 12 [some (.ref 186), some (.int x1), some (.int x2)] [] g none g' := by
  intro n
  induction n with
  | zero => intro x1 x2  g r g' hE; cases hE
  | succ n ih =>
    intro x1 x2  g r g' hE
    rw [f126_12] at hE
    refine y_iload_n k126_12 rfl ?_
    refine y_iconst (v := 1) k126_13 oi_1 ?_
    refine y_aload_n k126_14 rfl rfl ?_
    refine y_getI k126_15 fk_8_34 sh186 rfl ?_
    refine y_ishl k126_18 ?_
    by_cases c132 : (1 <<< ((g 186 4) &&& 31)) ≤ x2
    · rw [if_pos c132] at hE
      refine y_icT (tgt := 46) k126_19 (by decide) c132 ?_
      obtain ⟨rfl, rfl⟩ := zpr hE
      exact y_vret k126_46 rfl
    · rw [if_neg c132] at hE
      refine y_icF 46 k126_19 (by decide) c132 ?_
      refine y_aload_n k126_22 rfl rfl ?_
      refine y_aload_n k126_23 rfl rfl ?_
      refine y_getR k126_24 fk_8_27 sh186 rfl ?_
      refine y_iload_n k126_27 rfl ?_
      obtain ⟨r126, g125, hc127, hE⟩ := zbd_some hE
      refine y_invVi (j := 127) (As := [.ref 191, .int x2]) (rest := []) (N := zm127) (F127 K 191 x2 rw191 _ r126 g125 hc127 (d + 1)) k126_28 lk_8_72 zm127_get na127 rfl (Nat.le_of_ble_eq_true rfl) sh186 (by decide) rfl ?_
      refine y_iload_n k126_31 rfl ?_
      by_cases c131 : x1 < r126
      · rw [if_pos c131] at hE
        refine y_icT (tgt := 40) k126_32 (by decide) c131 ?_
        exact F126_40 K (f126_12 K n) ih x1 x2 _ _ _ hE
      · rw [if_neg c131] at hE
        refine y_icF 40 k126_32 (by decide) c131 ?_
        refine y_aload_n k126_35 rfl rfl ?_
        refine y_iload_n k126_36 rfl ?_
        obtain ⟨u129, g128, hc130, hE⟩ := zbd_some hE
        refine y_invVv (j := 128) (As := [.int x2]) (rest := []) (N := zm128) (F128 K x2 _ u129 g128 hc130 (d + 0)) k126_37 lk_8_76 zm128_get na128 rfl (Nat.le_of_ble_eq_true rfl) sh186 (by decide) rfl ?_
        exact F126_40 K (f126_12 K n) ih x1 x2 _ _ _ hE
theorem F126 {L : Nat} {xs : Nat → Int32} (K : Nat) (x1 : Int32) (g : zS) (r : Unit) (g' : zS) (hE : f126 K x1 g = some (r, g')) (d : Nat) : zE2 L xs (d + 4) 126 [.ref 186, .int x1] g none g' := by
  refine y_ev (n := 0) (d := d + 3) (ls := [some (.ref 186), some (.int x1), none]) zm126_get (by decide) (Nat.le_of_ble_eq_true rfl) rfl ?_
  unfold f126 at hE
  refine y_aload_n k126_0 rfl rfl ?_
  refine y_iconst (v := 0) k126_1 oi_0 ?_
  refine y_putI k126_2 fk_8_66 sh186 rfl pi_8_5.1 pi_8_5.2 ?_
  refine y_aload_n k126_5 rfl rfl ?_
  refine y_iconst (v := 0) k126_6 oi_0 ?_
  refine y_putI k126_7 fk_8_69 sh186 rfl pi_8_6.1 pi_8_6.2 ?_
  refine y_iconst (v := 0) k126_10 oi_0 ?_
  refine y_istore_n (ls2 := [some (.ref 186), some (.int x1), some (.int 0)]) k126_11 rfl (Nat.le_of_ble_eq_true rfl) rfl ?_
  exact F126_12 K K x1 0 _ _ _ hE
-- AdjectiveCoupons$Drafts.choosePlan
def f131_42 (K : Nat) (k13 : Int32 → Int32 → Int32 → Int32 → zS → Option (Unit × zS)) (x1 : Int32) (x2 : Int32) (x3 : Int32) (x4 : Int32) (g : zS) : Option (Unit × zS) := k13 x1 x2 x3 (x4 + 1) g
def f131_13 (K : Nat) : Nat → Int32 → Int32 → Int32 → Int32 → zS → Option (Unit × zS)
  | 0, _, _, _, _, _ => none
  | n + 1, x1, x2, x3, x4, g => if (1 <<< ((g 186 4) &&& 31)) ≤ x4 then some ((), g) else (zbd (f132 K x4 x1 x2 x3 g) fun r126 g125 => if r126 = 0 then f131_42 K (f131_13 K n) x1 x2 x3 x4 g125 else (zbd (f128 K x4 g125) fun _ g128 => f131_42 K (f131_13 K n) x1 x2 x3 x4 g128))
def f131 (K : Nat) (x1 : Int32) (x2 : Int32) (x3 : Int32) (g : zS) : Option (Unit × zS) := f131_13 K K x1 x2 x3 0 (zup (zup g 186 5 0) 186 6 0)
theorem F131_42 {L : Nat} {xs : Nat → Int32} {d : Nat} (K : Nat) (k13 : Int32 → Int32 → Int32 → Int32 → zS → Option (Unit × zS)) (hk13 : ∀ (x1 : Int32) (x2 : Int32) (x3 : Int32) (x4 : Int32) (g : zS) (r : Unit) (g' : zS), k13 x1 x2 x3 x4 g = some (r, g') → zG2 L xs (d + 3) zm131 13 [some (.ref 186), some (.int x1), some (.int x2), some (.int x3), some (.int x4)] [] g none g') (x1 : Int32) (x2 : Int32) (x3 : Int32) (x4 : Int32) (g : zS) (r : Unit) (g' : zS) (hE : f131_42 K k13 x1 x2 x3 x4 g = some (r, g')) : zG2 L xs (d + 3) zm131 42 [some (.ref 186), some (.int x1), some (.int x2), some (.int x3), some (.int x4)] [] g none g' := by
  unfold f131_42 at hE
  refine y_iinc (v := (x4 + 1)) (ls2 := [some (.ref 186), some (.int x1), some (.int x2), some (.int x3), some (.int (x4 + 1))]) k131_42 rfl rfl (by rw [oi_1]) rfl ?_
  refine y_goto (tgt := 13) k131_45 (by decide) ?_
  exact hk13 x1 x2 x3 (x4 + 1) _ _ _ hE
theorem F131_13 {L : Nat} {xs : Nat → Int32} {d : Nat} (K : Nat) : ∀ (n : Nat) (x1 : Int32) (x2 : Int32) (x3 : Int32) (x4 : Int32) (g : zS) (r : Unit) (g' : zS) (hE : f131_13 K n x1 x2 x3 x4 g = some (r, g')), zG2 L xs (d + 3) zm131 13 [some (.ref 186), some (.int x1), some (.int x2), some (.int x3), some (.int x4)] [] g none g' := by
  intro n
  induction n with
  | zero => intro x1 x2 x3 x4  g r g' hE; cases hE
  | succ n ih =>
    intro x1 x2 x3 x4  g r g' hE
    rw [f131_13] at hE
    refine y_iload k131_13 rfl ?_
    refine y_iconst (v := 1) k131_15 oi_1 ?_
    refine y_aload_n k131_16 rfl rfl ?_
    refine y_getI k131_17 fk_8_34 sh186 rfl ?_
    refine y_ishl k131_20 ?_
    by_cases c132 : (1 <<< ((g 186 4) &&& 31)) ≤ x4
    · rw [if_pos c132] at hE
      refine y_icT (tgt := 48) k131_21 (by decide) c132 ?_
      obtain ⟨rfl, rfl⟩ := zpr hE
      exact y_vret k131_48 rfl
    · rw [if_neg c132] at hE
      refine y_icF 48 k131_21 (by decide) c132 ?_
      refine y_aload_n k131_24 rfl rfl ?_
      refine y_iload k131_25 rfl ?_
      refine y_iload_n k131_27 rfl ?_
      refine y_iload_n k131_28 rfl ?_
      refine y_iload_n k131_29 rfl ?_
      obtain ⟨r126, g125, hc127, hE⟩ := zbd_some hE
      refine y_invVi (j := 132) (As := [.int x4, .int x1, .int x2, .int x3]) (rest := []) (N := zm132) (F132 K x4 x1 x2 x3 _ r126 g125 hc127 (d + 1)) k131_30 lk_8_79 zm132_get na132 rfl (Nat.le_of_ble_eq_true rfl) sh186 (by decide) rfl ?_
      by_cases c131 : r126 = 0
      · rw [if_pos c131] at hE
        refine y_ifT (tgt := 42) k131_33 (by decide) c131 ?_
        exact F131_42 K (f131_13 K n) ih x1 x2 x3 x4 _ _ _ hE
      · rw [if_neg c131] at hE
        refine y_ifF 42 k131_33 (by decide) c131 ?_
        refine y_aload_n k131_36 rfl rfl ?_
        refine y_iload k131_37 rfl ?_
        obtain ⟨u129, g128, hc130, hE⟩ := zbd_some hE
        refine y_invVv (j := 128) (As := [.int x4]) (rest := []) (N := zm128) (F128 K x4 _ u129 g128 hc130 (d + 0)) k131_39 lk_8_76 zm128_get na128 rfl (Nat.le_of_ble_eq_true rfl) sh186 (by decide) rfl ?_
        exact F131_42 K (f131_13 K n) ih x1 x2 x3 x4 _ _ _ hE
theorem F131 {L : Nat} {xs : Nat → Int32} (K : Nat) (x1 : Int32) (x2 : Int32) (x3 : Int32) (g : zS) (r : Unit) (g' : zS) (hE : f131 K x1 x2 x3 g = some (r, g')) (d : Nat) : zE2 L xs (d + 4) 131 [.ref 186, .int x1, .int x2, .int x3] g none g' := by
  refine y_ev (n := 0) (d := d + 3) (ls := [some (.ref 186), some (.int x1), some (.int x2), some (.int x3), none]) zm131_get (by decide) (Nat.le_of_ble_eq_true rfl) rfl ?_
  unfold f131 at hE
  refine y_aload_n k131_0 rfl rfl ?_
  refine y_iconst (v := 0) k131_1 oi_0 ?_
  refine y_putI k131_2 fk_8_66 sh186 rfl pi_8_5.1 pi_8_5.2 ?_
  refine y_aload_n k131_5 rfl rfl ?_
  refine y_iconst (v := 0) k131_6 oi_0 ?_
  refine y_putI k131_7 fk_8_69 sh186 rfl pi_8_6.1 pi_8_6.2 ?_
  refine y_iconst (v := 0) k131_10 oi_0 ?_
  refine y_istore (ls2 := [some (.ref 186), some (.int x1), some (.int x2), some (.int x3), some (.int 0)]) k131_11 rfl (Nat.le_of_ble_eq_true rfl) rfl ?_
  exact F131_13 K K x1 x2 x3 0 _ _ _ hE
-- AdjectiveCoupons.likenessTo
def f134_76 (K : Nat) (k22 : Int32 → Int32 → Int32 → Int32 → zS → Option (Int32 × zS)) (x1 : Int32) (x2 : Int32) (x3 : Int32) (x4 : Int32) (g : zS) : Option (Int32 × zS) := k22 x1 x2 x3 (x4 + 1) g
def f134_22 (K : Nat) : Nat → Int32 → Int32 → Int32 → Int32 → zS → Option (Int32 × zS)
  | 0, _, _, _, _, _ => none
  | n + 1, x1, x2, x3, x4, g => if (g 180 1) ≤ x4 then some (x3, g) else (zbd (f62 K 180 x4 g) fun r135 g134 => if r135 = (-1) then f134_76 K (f134_22 K n) x1 x2 x3 x4 g134 else if x2 ≤ 0 then f134_76 K (f134_22 K n) x1 x2 x3 x4 g134 else (zbd (f51 K 34 x1 r135 g134) fun r138 g137 => if ¬ x2 = 0 then f134_76 K (f134_22 K n) x1 x2 (x3 + ((1000 * (r138 + 1)) / x2)) x4 g137 else none))
def f134 (K : Nat) (x1 : Int32) (g : zS) : Option (Int32 × zS) := zbd (f55 K 34 x1 g) fun r144 g143 => f134_22 K K x1 (r144 + (g143 4 0)) 0 0 g143
theorem F134_76 {L : Nat} {xs : Nat → Int32} {d : Nat} (K : Nat) (k22 : Int32 → Int32 → Int32 → Int32 → zS → Option (Int32 × zS)) (hk22 : ∀ (x1 : Int32) (x2 : Int32) (x3 : Int32) (x4 : Int32) (g : zS) (r : Int32) (g' : zS), k22 x1 x2 x3 x4 g = some (r, g') → zG2 L xs (d + 3) zm134 22 [some (.ref 0), some (.int x1), some (.int x2), some (.int x3), some (.int x4), none] [] g (some (.int r)) g') (x1 : Int32) (x2 : Int32) (x3 : Int32) (x4 : Int32) (g : zS) (r : Int32) (g' : zS) (hE : f134_76 K k22 x1 x2 x3 x4 g = some (r, g')) : zG2 L xs (d + 3) zm134 76 [some (.ref 0), some (.int x1), some (.int x2), some (.int x3), some (.int x4), none] [] g (some (.int r)) g' := by
  unfold f134_76 at hE
  refine y_iinc (v := (x4 + 1)) (ls2 := [some (.ref 0), some (.int x1), some (.int x2), some (.int x3), some (.int (x4 + 1)), none]) k134_76 rfl rfl (by rw [oi_1]) rfl ?_
  refine y_goto (tgt := 22) k134_79 (by decide) ?_
  exact hk22 x1 x2 x3 (x4 + 1) _ _ _ hE
theorem F134_22 {L : Nat} {xs : Nat → Int32} {d : Nat} (K : Nat) : ∀ (n : Nat) (x1 : Int32) (x2 : Int32) (x3 : Int32) (x4 : Int32) (g : zS) (r : Int32) (g' : zS) (hE : f134_22 K n x1 x2 x3 x4 g = some (r, g')), zG2 L xs (d + 3) zm134 22 [some (.ref 0), some (.int x1), some (.int x2), some (.int x3), some (.int x4), none] [] g (some (.int r)) g' := by
  intro n
  induction n with
  | zero => intro x1 x2 x3 x4  g r g' hE; cases hE
  | succ n ih =>
    intro x1 x2 x3 x4  g r g' hE
    rw [f134_22] at hE
    refine y_iload k134_22 rfl ?_
    refine y_aload_n k134_24 rfl rfl ?_
    refine y_getR k134_25 fk_0_43 sh0 rfl ?_
    refine y_getI k134_28 fk_0_101 sh180 rfl ?_
    by_cases c142 : (g 180 1) ≤ x4
    · rw [if_pos c142] at hE
      refine y_icT (tgt := 82) k134_31 (by decide) c142 ?_
      refine y_iload_n k134_82 rfl ?_
      obtain ⟨rfl, rfl⟩ := zpr hE
      exact y_iret k134_83 rfl
    · rw [if_neg c142] at hE
      refine y_icF 82 k134_31 (by decide) c142 ?_
      refine y_aload_n k134_34 rfl rfl ?_
      refine y_getR k134_35 fk_0_43 sh0 rfl ?_
      refine y_iload k134_38 rfl ?_
      obtain ⟨r135, g134, hc136, hE⟩ := zbd_some hE
      refine y_invVi (j := 62) (As := [.int x4]) (rest := []) (N := zm62) (F62 K 180 x4 li180 _ r135 g134 hc136 (d + 1)) k134_40 lk_0_164 zm62_get na62 rfl (Nat.le_of_ble_eq_true rfl) sh180 (by decide) rfl ?_
      refine y_istore (ls2 := [some (.ref 0), some (.int x1), some (.int x2), some (.int x3), some (.int x4), some (.int r135)]) k134_43 rfl (Nat.le_of_ble_eq_true rfl) rfl ?_
      refine y_iload k134_45 rfl ?_
      refine y_iconst (v := (-1)) k134_47 oi_m1 ?_
      by_cases c141 : r135 = (-1)
      · rw [if_pos c141] at hE
        refine y_icT (tgt := 76) k134_48 (by decide) c141 ?_
        exact y_weak (ls0 := [some (.ref 0), some (.int x1), some (.int x2), some (.int x3), some (.int x4), none]) ⟨rfl, rfl, rfl, rfl, rfl, rfl, trivial⟩ (F134_76 K (f134_22 K n) ih x1 x2 x3 x4 _ _ _ hE)
      · rw [if_neg c141] at hE
        refine y_icF 76 k134_48 (by decide) c141 ?_
        refine y_iload_n k134_51 rfl ?_
        by_cases c140 : x2 ≤ 0
        · rw [if_pos c140] at hE
          refine y_ifT (tgt := 76) k134_52 (by decide) c140 ?_
          exact y_weak (ls0 := [some (.ref 0), some (.int x1), some (.int x2), some (.int x3), some (.int x4), none]) ⟨rfl, rfl, rfl, rfl, rfl, rfl, trivial⟩ (F134_76 K (f134_22 K n) ih x1 x2 x3 x4 _ _ _ hE)
        · rw [if_neg c140] at hE
          refine y_ifF 76 k134_52 (by decide) c140 ?_
          refine y_iload_n k134_55 rfl ?_
          refine y_sipush (v := 1000) k134_56 s16_1000 ?_
          refine y_aload_n k134_59 rfl rfl ?_
          refine y_getR k134_60 fk_0_29 sh0 rfl ?_
          refine y_iload_n k134_63 rfl ?_
          refine y_iload k134_64 rfl ?_
          obtain ⟨r138, g137, hc139, hE⟩ := zbd_some hE
          refine y_invVi (j := 51) (As := [.int x1, .int r135]) (rest := [.int 1000, .int x3]) (N := zm51) (F51 K 34 x1 r135 stt34 _ r138 g137 hc139 (d + 1)) k134_66 lk_0_323 zm51_get na51 rfl (Nat.le_of_ble_eq_true rfl) sh34 (by decide) rfl ?_
          refine y_iconst (v := 1) k134_69 oi_1 ?_
          refine y_iadd k134_70 ?_
          refine y_imul k134_71 ?_
          refine y_iload_n k134_72 rfl ?_
          obtain ⟨hc, hE⟩ := zif_some hE
          refine y_idiv k134_73 hc ?_
          refine y_iadd k134_74 ?_
          refine y_istore_n (ls2 := [some (.ref 0), some (.int x1), some (.int x2), some (.int (x3 + ((1000 * (r138 + 1)) / x2))), some (.int x4), some (.int r135)]) k134_75 rfl (Nat.le_of_ble_eq_true rfl) rfl ?_
          exact y_weak (ls0 := [some (.ref 0), some (.int x1), some (.int x2), some (.int (x3 + ((1000 * (r138 + 1)) / x2))), some (.int x4), none]) ⟨rfl, rfl, rfl, rfl, rfl, rfl, trivial⟩ (F134_76 K (f134_22 K n) ih x1 x2 (x3 + ((1000 * (r138 + 1)) / x2)) x4 _ _ _ hE)
theorem F134 {L : Nat} {xs : Nat → Int32} (K : Nat) (x1 : Int32) (g : zS) (r : Int32) (g' : zS) (hE : f134 K x1 g = some (r, g')) (d : Nat) : zE2 L xs (d + 4) 134 [.ref 0, .int x1] g (some (.int r)) g' := by
  refine y_ev (n := 0) (d := d + 3) (ls := [some (.ref 0), some (.int x1), none, none, none, none]) zm134_get (by decide) (Nat.le_of_ble_eq_true rfl) rfl ?_
  unfold f134 at hE
  refine y_aload_n k134_0 rfl rfl ?_
  refine y_getR k134_1 fk_0_29 sh0 rfl ?_
  refine y_iload_n k134_4 rfl ?_
  obtain ⟨r144, g143, hc145, hE⟩ := zbd_some hE
  refine y_invVi (j := 55) (As := [.int x1]) (rest := []) (N := zm55) (F55 K 34 x1 stt34 _ r144 g143 hc145 (d + 0)) k134_5 lk_0_150 zm55_get na55 rfl (Nat.le_of_ble_eq_true rfl) sh34 (by decide) rfl ?_
  refine y_aload_n k134_8 rfl rfl ?_
  refine y_getR k134_9 fk_0_19 sh0 rfl ?_
  refine y_getI k134_12 fk_0_250 sh4 rfl ?_
  refine y_iadd k134_15 ?_
  refine y_istore_n (ls2 := [some (.ref 0), some (.int x1), some (.int (r144 + (g143 4 0))), none, none, none]) k134_16 rfl (Nat.le_of_ble_eq_true rfl) rfl ?_
  refine y_iconst (v := 0) k134_17 oi_0 ?_
  refine y_istore_n (ls2 := [some (.ref 0), some (.int x1), some (.int (r144 + (g143 4 0))), some (.int 0), none, none]) k134_18 rfl (Nat.le_of_ble_eq_true rfl) rfl ?_
  refine y_iconst (v := 0) k134_19 oi_0 ?_
  refine y_istore (ls2 := [some (.ref 0), some (.int x1), some (.int (r144 + (g143 4 0))), some (.int 0), some (.int 0), none]) k134_20 rfl (Nat.le_of_ble_eq_true rfl) rfl ?_
  exact F134_22 K K x1 (r144 + (g143 4 0)) 0 0 _ _ _ hE
-- AdjectiveCoupons.net
def f138 (K : Nat) (x1 : Int32) (g : zS) : Option (Int32 × zS) := zbd (f53 K x1 g) fun r109 g108 => if r109 = 0 then some ((-2), g108) else (zbd (f139 K 34 x1 g108) fun r112 g111 => some ((r112 + 9999), g111))
theorem F138 {L : Nat} {xs : Nat → Int32} (K : Nat) (x1 : Int32) (g : zS) (r : Int32) (g' : zS) (hE : f138 K x1 g = some (r, g')) (d : Nat) : zE2 L xs (d + 4) 138 [.ref 0, .int x1] g (some (.int r)) g' := by
  refine y_ev (n := 0) (d := d + 3) (ls := [some (.ref 0), some (.int x1)]) zm138_get (by decide) (Nat.le_of_ble_eq_true rfl) rfl ?_
  unfold f138 at hE
  refine y_aload_n k138_0 rfl rfl ?_
  refine y_iload_n k138_1 rfl ?_
  obtain ⟨r109, g108, hc110, hE⟩ := zbd_some hE
  refine y_invVi (j := 53) (As := [.int x1]) (rest := []) (N := zm53) (F53 K x1 _ r109 g108 hc110 (d + 1)) k138_2 lk_0_134 zm53_get na53 rfl (Nat.le_of_ble_eq_true rfl) sh0 (by decide) rfl ?_
  by_cases c114 : r109 = 0
  · rw [if_pos c114] at hE
    refine y_ifT (tgt := 23) k138_5 (by decide) c114 ?_
    refine y_bipush (v := (-2)) k138_23 b8_m2 ?_
    obtain ⟨rfl, rfl⟩ := zpr hE
    exact y_iret k138_25 rfl
  · rw [if_neg c114] at hE
    refine y_ifF 23 k138_5 (by decide) c114 ?_
    refine y_aload_n k138_8 rfl rfl ?_
    refine y_getR k138_9 fk_0_29 sh0 rfl ?_
    refine y_iload_n k138_12 rfl ?_
    obtain ⟨r112, g111, hc113, hE⟩ := zbd_some hE
    refine y_invVi (j := 139) (As := [.int x1]) (rest := []) (N := zm139) (F139 K 34 x1 stt34 _ r112 g111 hc113 (d + 0)) k138_13 lk_0_302 zm139_get na139 rfl (Nat.le_of_ble_eq_true rfl) sh34 (by decide) rfl ?_
    refine y_sipush (v := 9999) k138_16 s16_9999 ?_
    refine y_iadd k138_19 ?_
    refine y_goto (tgt := 25) k138_20 (by decide) ?_
    obtain ⟨rfl, rfl⟩ := zpr hE
    exact y_iret k138_25 rfl
-- AdjectiveCoupons$Trials.fewestPayments
def f141_98 (K : Nat) (k9 : Nat → Int32 → Int32 → Int32 → zS → Option (Int32 × zS)) (o1 : Nat) (x2 : Int32) (x3 : Int32) (x4 : Int32) (xs1 : Int32) (xs2 : Int32) (g : zS) : Option (Int32 × zS) := zbd (f14 K 220 xs1 xs2 g) fun _ g159 => k9 o1 x2 x3 (x4 + 1) g159
def f141_72 (K : Nat) (k9 : Nat → Int32 → Int32 → Int32 → zS → Option (Int32 × zS)) (k24 : Nat → Int32 → Int32 → Int32 → Int32 → Int32 → Int32 → zS → Option (Int32 × zS)) (o1 : Nat) (x2 : Int32) (x3 : Int32) (x4 : Int32) (x5 : Int32) (x6 : Int32) (x7 : Int32) (g : zS) : Option (Int32 × zS) := k24 o1 x2 x3 x4 x5 x6 (x7 + 1) g
def f141_24 (K : Nat) (k9 : Nat → Int32 → Int32 → Int32 → zS → Option (Int32 × zS)) : Nat → Nat → Int32 → Int32 → Int32 → Int32 → Int32 → Int32 → zS → Option (Int32 × zS)
  | 0, _, _, _, _, _, _, _, _ => none
  | n + 1, o1, x2, x3, x4, x5, x6, x7, g => if x2 ≤ x7 then if ¬ x6 = 0 then f141_98 K k9 o1 x2 x3 x4 x4 x5 g else (f141_98 K k9 o1 x2 x3 x4 x4 (x5 + 1) g) else (zbd (f64 K x4 x7 g) fun r164 g163 => if r164 = 0 then f141_72 K k9 (f141_24 K k9 n) o1 x2 x3 x4 x5 x6 x7 g163 else (zbd (f139 K o1 x7 g163) fun r167 g166 => zbd (f21 K 220 (x4 - (1 <<< (x7 &&& 31))) g166) fun r170 g169 => f141_72 K k9 (f141_24 K k9 n) o1 x2 x3 x4 (if x5 < r170 then r170 else x5) (x6 + r167) x7 g169))
def f141_9 (K : Nat) : Nat → Nat → Int32 → Int32 → Int32 → zS → Option (Int32 × zS)
  | 0, _, _, _, _, _ => none
  | n + 1, o1, x2, x3, x4, g => if x3 < x4 then zbd (f21 K 220 x3 g) fun r175 g174 => some ((x2 - r175), g174) else (f141_24 K (f141_9 K n) K o1 x2 x3 x4 0 0 0 g)
def f141 (K : Nat) (o1 : Nat) (x2 : Int32) (g : zS) : Option (Int32 × zS) := f141_9 K K o1 x2 ((1 <<< (x2 &&& 31)) - 1) 1 g
theorem F141_98 {L : Nat} {xs : Nat → Int32} {d : Nat} (K : Nat) (k9 : Nat → Int32 → Int32 → Int32 → zS → Option (Int32 × zS)) (hk9 : ∀ (o1 : Nat) (x2 : Int32) (x3 : Int32) (x4 : Int32) (h1 : zState o1) (g : zS) (r : Int32) (g' : zS), k9 o1 x2 x3 x4 g = some (r, g') → zG2 L xs (d + 3) zm141 9 [some (.ref 213), some (.ref o1), some (.int x2), some (.int x3), some (.int x4), none, none, none] [] g (some (.int r)) g') (o1 : Nat) (x2 : Int32) (x3 : Int32) (x4 : Int32) (xs1 : Int32) (xs2 : Int32) (h1 : zState o1) (g : zS) (r : Int32) (g' : zS) (hE : f141_98 K k9 o1 x2 x3 x4 xs1 xs2 g = some (r, g')) : zG2 L xs (d + 3) zm141 98 [some (.ref 213), some (.ref o1), some (.int x2), some (.int x3), some (.int x4), none, none, none] [.int xs2, .int xs1, .ref 220] g (some (.int r)) g' := by
  unfold f141_98 at hE
  obtain ⟨u160, g159, hc161, hE⟩ := zbd_some hE
  refine y_invVv (j := 14) (As := [.int xs1, .int xs2]) (rest := []) (N := zm14) (F14 K 220 xs1 xs2 rw220 _ u160 g159 hc161 (d + 2)) k141_98 lk_9_120 zm14_get na14 rfl (Nat.le_of_ble_eq_true rfl) sh220 (by decide) rfl ?_
  refine y_iinc (v := (x4 + 1)) (ls2 := [some (.ref 213), some (.ref o1), some (.int x2), some (.int x3), some (.int (x4 + 1)), none, none, none]) k141_101 rfl rfl (by rw [oi_1]) rfl ?_
  refine y_goto (tgt := 9) k141_104 (by decide) ?_
  exact hk9 o1 x2 x3 (x4 + 1) h1 _ _ _ hE
theorem F141_72 {L : Nat} {xs : Nat → Int32} {d : Nat} (K : Nat) (k9 : Nat → Int32 → Int32 → Int32 → zS → Option (Int32 × zS)) (hk9 : ∀ (o1 : Nat) (x2 : Int32) (x3 : Int32) (x4 : Int32) (h1 : zState o1) (g : zS) (r : Int32) (g' : zS), k9 o1 x2 x3 x4 g = some (r, g') → zG2 L xs (d + 3) zm141 9 [some (.ref 213), some (.ref o1), some (.int x2), some (.int x3), some (.int x4), none, none, none] [] g (some (.int r)) g') (k24 : Nat → Int32 → Int32 → Int32 → Int32 → Int32 → Int32 → zS → Option (Int32 × zS)) (hk24 : ∀ (o1 : Nat) (x2 : Int32) (x3 : Int32) (x4 : Int32) (x5 : Int32) (x6 : Int32) (x7 : Int32) (h1 : zState o1) (g : zS) (r : Int32) (g' : zS), k24 o1 x2 x3 x4 x5 x6 x7 g = some (r, g') → zG2 L xs (d + 3) zm141 24 [some (.ref 213), some (.ref o1), some (.int x2), some (.int x3), some (.int x4), some (.int x5), some (.int x6), some (.int x7)] [] g (some (.int r)) g') (o1 : Nat) (x2 : Int32) (x3 : Int32) (x4 : Int32) (x5 : Int32) (x6 : Int32) (x7 : Int32) (h1 : zState o1) (g : zS) (r : Int32) (g' : zS) (hE : f141_72 K k9 k24 o1 x2 x3 x4 x5 x6 x7 g = some (r, g')) : zG2 L xs (d + 3) zm141 72 [some (.ref 213), some (.ref o1), some (.int x2), some (.int x3), some (.int x4), some (.int x5), some (.int x6), some (.int x7)] [] g (some (.int r)) g' := by
  unfold f141_72 at hE
  refine y_iinc (v := (x7 + 1)) (ls2 := [some (.ref 213), some (.ref o1), some (.int x2), some (.int x3), some (.int x4), some (.int x5), some (.int x6), some (.int (x7 + 1))]) k141_72 rfl rfl (by rw [oi_1]) rfl ?_
  refine y_goto (tgt := 24) k141_75 (by decide) ?_
  exact hk24 o1 x2 x3 x4 x5 x6 (x7 + 1) h1 _ _ _ hE
theorem F141_24 {L : Nat} {xs : Nat → Int32} {d : Nat} (K : Nat) (k9 : Nat → Int32 → Int32 → Int32 → zS → Option (Int32 × zS)) (hk9 : ∀ (o1 : Nat) (x2 : Int32) (x3 : Int32) (x4 : Int32) (h1 : zState o1) (g : zS) (r : Int32) (g' : zS), k9 o1 x2 x3 x4 g = some (r, g') → zG2 L xs (d + 3) zm141 9 [some (.ref 213), some (.ref o1), some (.int x2), some (.int x3), some (.int x4), none, none, none] [] g (some (.int r)) g') : ∀ (n : Nat) (o1 : Nat) (x2 : Int32) (x3 : Int32) (x4 : Int32) (x5 : Int32) (x6 : Int32) (x7 : Int32) (h1 : zState o1) (g : zS) (r : Int32) (g' : zS) (hE : f141_24 K k9 n o1 x2 x3 x4 x5 x6 x7 g = some (r, g')), zG2 L xs (d + 3) zm141 24 [some (.ref 213), some (.ref o1), some (.int x2), some (.int x3), some (.int x4), some (.int x5), some (.int x6), some (.int x7)] [] g (some (.int r)) g' := by
  intro n
  induction n with
  | zero => intro o1 x2 x3 x4 x5 x6 x7 h1 g r g' hE; cases hE
  | succ n ih =>
    intro o1 x2 x3 x4 x5 x6 x7 h1 g r g' hE
    rw [f141_24] at hE
    refine y_iload k141_24 rfl ?_
    refine y_iload_n k141_26 rfl ?_
    by_cases c173 : x2 ≤ x7
    · rw [if_pos c173] at hE
      refine y_icT (tgt := 78) k141_27 (by decide) c173 ?_
      refine y_aload_n k141_78 rfl rfl ?_
      refine y_getR k141_79 fk_9_26 sh213 rfl ?_
      refine y_iload k141_82 rfl ?_
      refine y_iload k141_84 rfl ?_
      by_cases c162 : ¬ x6 = 0
      · rw [if_pos c162] at hE
        refine y_ifT (tgt := 96) k141_86 (by decide) c162 ?_
        refine y_iload k141_96 rfl ?_
        exact y_weak (ls0 := [some (.ref 213), some (.ref o1), some (.int x2), some (.int x3), some (.int x4), none, none, none]) ⟨rfl, rfl, rfl, rfl, rfl, rfl, rfl, rfl, trivial⟩ (F141_98 K k9 hk9 o1 x2 x3 x4 x4 x5 h1 _ _ _ hE)
      · rw [if_neg c162] at hE
        refine y_ifF 96 k141_86 (by decide) c162 ?_
        refine y_iload k141_89 rfl ?_
        refine y_iconst (v := 1) k141_91 oi_1 ?_
        refine y_iadd k141_92 ?_
        refine y_goto (tgt := 98) k141_93 (by decide) ?_
        exact y_weak (ls0 := [some (.ref 213), some (.ref o1), some (.int x2), some (.int x3), some (.int x4), none, none, none]) ⟨rfl, rfl, rfl, rfl, rfl, rfl, rfl, rfl, trivial⟩ (F141_98 K k9 hk9 o1 x2 x3 x4 x4 (x5 + 1) h1 _ _ _ hE)
    · rw [if_neg c173] at hE
      refine y_icF 78 k141_27 (by decide) c173 ?_
      refine y_iload k141_30 rfl ?_
      refine y_iload k141_32 rfl ?_
      obtain ⟨r164, g163, hc165, hE⟩ := zbd_some hE
      refine y_invSi (j := 64) (As := [.int x4, .int x7]) (rest := []) (N := zm64) (F64 K x4 x7 _ r164 g163 hc165 (d + 2)) k141_34 lk_9_83 zm64_get na64 rfl (Nat.le_of_ble_eq_true rfl) ?_
      by_cases c172 : r164 = 0
      · rw [if_pos c172] at hE
        refine y_ifT (tgt := 72) k141_37 (by decide) c172 ?_
        exact F141_72 K k9 hk9 (f141_24 K k9 n) ih o1 x2 x3 x4 x5 x6 x7 h1 _ _ _ hE
      · rw [if_neg c172] at hE
        refine y_ifF 72 k141_37 (by decide) c172 ?_
        refine y_iload k141_40 rfl ?_
        refine y_aload_n k141_42 rfl rfl ?_
        refine y_iload k141_43 rfl ?_
        obtain ⟨r167, g166, hc168, hE⟩ := zbd_some hE
        refine y_invVi (j := 139) (As := [.int x7]) (rest := [.int x6]) (N := zm139) (F139 K o1 x7 h1 _ r167 g166 hc168 (d + 0)) k141_45 lk_9_112 zm139_get na139 rfl (Nat.le_of_ble_eq_true rfl) h1.1 (by decide) rfl ?_
        refine y_iadd k141_48 ?_
        refine y_istore (ls2 := [some (.ref 213), some (.ref o1), some (.int x2), some (.int x3), some (.int x4), some (.int x5), some (.int (x6 + r167)), some (.int x7)]) k141_49 rfl (Nat.le_of_ble_eq_true rfl) rfl ?_
        refine y_iload k141_51 rfl ?_
        refine y_aload_n k141_53 rfl rfl ?_
        refine y_getR k141_54 fk_9_26 sh213 rfl ?_
        refine y_iload k141_57 rfl ?_
        refine y_iconst (v := 1) k141_59 oi_1 ?_
        refine y_iload k141_60 rfl ?_
        refine y_ishl k141_62 ?_
        refine y_isub k141_63 ?_
        obtain ⟨r170, g169, hc171, hE⟩ := zbd_some hE
        refine y_invVi (j := 21) (As := [.int (x4 - (1 <<< (x7 &&& 31)))]) (rest := [.int x5]) (N := zm21) (F21 K 220 (x4 - (1 <<< (x7 &&& 31))) rw220 _ r170 g169 hc171 (d + 2)) k141_64 lk_9_117 zm21_get na21 rfl (Nat.le_of_ble_eq_true rfl) sh220 (by decide) rfl ?_
        refine y_max k141_67 lk_9_61 (Nat.le_of_ble_eq_true rfl) ?_
        refine y_istore (ls2 := [some (.ref 213), some (.ref o1), some (.int x2), some (.int x3), some (.int x4), some (.int (if x5 < r170 then r170 else x5)), some (.int (x6 + r167)), some (.int x7)]) k141_70 rfl (Nat.le_of_ble_eq_true rfl) rfl ?_
        exact F141_72 K k9 hk9 (f141_24 K k9 n) ih o1 x2 x3 x4 (if x5 < r170 then r170 else x5) (x6 + r167) x7 h1 _ _ _ hE
theorem F141_9 {L : Nat} {xs : Nat → Int32} {d : Nat} (K : Nat) : ∀ (n : Nat) (o1 : Nat) (x2 : Int32) (x3 : Int32) (x4 : Int32) (h1 : zState o1) (g : zS) (r : Int32) (g' : zS) (hE : f141_9 K n o1 x2 x3 x4 g = some (r, g')), zG2 L xs (d + 3) zm141 9 [some (.ref 213), some (.ref o1), some (.int x2), some (.int x3), some (.int x4), none, none, none] [] g (some (.int r)) g' := by
  intro n
  induction n with
  | zero => intro o1 x2 x3 x4 h1 g r g' hE; cases hE
  | succ n ih =>
    intro o1 x2 x3 x4 h1 g r g' hE
    rw [f141_9] at hE
    refine y_iload k141_9 rfl ?_
    refine y_iload_n k141_11 rfl ?_
    by_cases c177 : x3 < x4
    · rw [if_pos c177] at hE
      refine y_icT (tgt := 107) k141_12 (by decide) c177 ?_
      refine y_iload_n k141_107 rfl ?_
      refine y_aload_n k141_108 rfl rfl ?_
      refine y_getR k141_109 fk_9_26 sh213 rfl ?_
      refine y_iload_n k141_112 rfl ?_
      obtain ⟨r175, g174, hc176, hE⟩ := zbd_some hE
      refine y_invVi (j := 21) (As := [.int x3]) (rest := [.int x2]) (N := zm21) (F21 K 220 x3 rw220 _ r175 g174 hc176 (d + 2)) k141_113 lk_9_117 zm21_get na21 rfl (Nat.le_of_ble_eq_true rfl) sh220 (by decide) rfl ?_
      refine y_isub k141_116 ?_
      obtain ⟨rfl, rfl⟩ := zpr hE
      exact y_iret k141_117 rfl
    · rw [if_neg c177] at hE
      refine y_icF 107 k141_12 (by decide) c177 ?_
      refine y_iconst (v := 0) k141_15 oi_0 ?_
      refine y_istore (ls2 := [some (.ref 213), some (.ref o1), some (.int x2), some (.int x3), some (.int x4), some (.int 0), none, none]) k141_16 rfl (Nat.le_of_ble_eq_true rfl) rfl ?_
      refine y_iconst (v := 0) k141_18 oi_0 ?_
      refine y_istore (ls2 := [some (.ref 213), some (.ref o1), some (.int x2), some (.int x3), some (.int x4), some (.int 0), some (.int 0), none]) k141_19 rfl (Nat.le_of_ble_eq_true rfl) rfl ?_
      refine y_iconst (v := 0) k141_21 oi_0 ?_
      refine y_istore (ls2 := [some (.ref 213), some (.ref o1), some (.int x2), some (.int x3), some (.int x4), some (.int 0), some (.int 0), some (.int 0)]) k141_22 rfl (Nat.le_of_ble_eq_true rfl) rfl ?_
      exact F141_24 K (f141_9 K n) ih K o1 x2 x3 x4 0 0 0 h1 _ _ _ hE
theorem F141 {L : Nat} {xs : Nat → Int32} (K : Nat) (o1 : Nat) (x2 : Int32) (h1 : zState o1) (g : zS) (r : Int32) (g' : zS) (hE : f141 K o1 x2 g = some (r, g')) (d : Nat) : zE2 L xs (d + 4) 141 [.ref 213, .ref o1, .int x2] g (some (.int r)) g' := by
  refine y_ev (n := 0) (d := d + 3) (ls := [some (.ref 213), some (.ref o1), some (.int x2), none, none, none, none, none]) zm141_get (by decide) (Nat.le_of_ble_eq_true rfl) rfl ?_
  unfold f141 at hE
  refine y_iconst (v := 1) k141_0 oi_1 ?_
  refine y_iload_n k141_1 rfl ?_
  refine y_ishl k141_2 ?_
  refine y_iconst (v := 1) k141_3 oi_1 ?_
  refine y_isub k141_4 ?_
  refine y_istore_n (ls2 := [some (.ref 213), some (.ref o1), some (.int x2), some (.int ((1 <<< (x2 &&& 31)) - 1)), none, none, none, none]) k141_5 rfl (Nat.le_of_ble_eq_true rfl) rfl ?_
  refine y_iconst (v := 1) k141_6 oi_1 ?_
  refine y_istore (ls2 := [some (.ref 213), some (.ref o1), some (.int x2), some (.int ((1 <<< (x2 &&& 31)) - 1)), some (.int 1), none, none, none]) k141_7 rfl (Nat.le_of_ble_eq_true rfl) rfl ?_
  exact F141_9 K K o1 x2 ((1 <<< (x2 &&& 31)) - 1) 1 h1 _ _ _ hE
-- AdjectiveCoupons.priceFor
def f58 (K : Nat) (x1 : Int32) (x2 : Int32) (g : zS) : Option (Int32 × zS) := zbd (f59 K 4 x2 g) fun _ g110 => zbd (f54 K 4 x1 g110) fun r114 g113 => zbd (f60 K 180 r114 g113) fun r117 g116 => some (r117, g116)
theorem F58 {L : Nat} {xs : Nat → Int32} (K : Nat) (x1 : Int32) (x2 : Int32) (g : zS) (r : Int32) (g' : zS) (hE : f58 K x1 x2 g = some (r, g')) (d : Nat) : zE2 L xs (d + 5) 58 [.ref 0, .int x1, .int x2] g (some (.int r)) g' := by
  refine y_ev (n := 0) (d := d + 4) (ls := [some (.ref 0), some (.int x1), some (.int x2)]) zm58_get (by decide) (Nat.le_of_ble_eq_true rfl) rfl ?_
  unfold f58 at hE
  refine y_aload_n k58_0 rfl rfl ?_
  refine y_getR k58_1 fk_0_50 sh0 rfl ?_
  refine y_aload_n k58_4 rfl rfl ?_
  refine y_getR k58_5 fk_0_19 sh0 rfl ?_
  refine y_iload_n k58_8 rfl ?_
  obtain ⟨u111, g110, hc112, hE⟩ := zbd_some hE
  refine y_invVv (j := 59) (As := [.ref 4, .int x2]) (rest := []) (N := zm59) (F59 K 4 x2 tol4 _ u111 g110 hc112 (d + 1)) k58_9 lk_0_167 zm59_get na59 rfl (Nat.le_of_ble_eq_true rfl) sh183 (by decide) rfl ?_
  refine y_aload_n k58_12 rfl rfl ?_
  refine y_getR k58_13 fk_0_50 sh0 rfl ?_
  refine y_aload_n k58_16 rfl rfl ?_
  refine y_getR k58_17 fk_0_43 sh0 rfl ?_
  refine y_aload_n k58_20 rfl rfl ?_
  refine y_getR k58_21 fk_0_19 sh0 rfl ?_
  refine y_iload_n k58_24 rfl ?_
  obtain ⟨r114, g113, hc115, hE⟩ := zbd_some hE
  refine y_invVi (j := 54) (As := [.int x1]) (rest := [.ref 180, .ref 183]) (N := zm54) (F54 K 4 x1 tol4 _ r114 g113 hc115 (d + 2)) k58_25 lk_0_137 zm54_get na54 rfl (Nat.le_of_ble_eq_true rfl) sh4 (by decide) rfl ?_
  obtain ⟨r117, g116, hc118, hE⟩ := zbd_some hE
  refine y_invVi (j := 60) (As := [.ref 180, .int r114]) (rest := []) (N := zm60) (F60 K 180 r114 li180 _ r117 g116 hc118 (d + 0)) k58_28 lk_0_268 zm60_get na60 rfl (Nat.le_of_ble_eq_true rfl) sh183 (by decide) rfl ?_
  obtain ⟨rfl, rfl⟩ := zpr hE
  exact y_iret k58_31 rfl
-- AdjectiveCoupons.good
def f73 (K : Nat) (g : zS) : Option (Int32 × zS) := zbd (f59 K 4 (g 34 0) g) fun _ g108 => zbd (f74 K 180 g108) fun r112 g111 => if r112 = 0 then some (0, g111) else (some (1, g111))
theorem F73 {L : Nat} {xs : Nat → Int32} (K : Nat) (g : zS) (r : Int32) (g' : zS) (hE : f73 K  g = some (r, g')) (d : Nat) : zE2 L xs (d + 5) 73 [.ref 0] g (some (.int r)) g' := by
  refine y_ev (n := 0) (d := d + 4) (ls := [some (.ref 0)]) zm73_get (by decide) (Nat.le_of_ble_eq_true rfl) rfl ?_
  unfold f73 at hE
  refine y_aload_n k73_0 rfl rfl ?_
  refine y_getR k73_1 fk_0_50 sh0 rfl ?_
  refine y_aload_n k73_4 rfl rfl ?_
  refine y_getR k73_5 fk_0_19 sh0 rfl ?_
  refine y_aload_n k73_8 rfl rfl ?_
  refine y_getR k73_9 fk_0_29 sh0 rfl ?_
  refine y_getI k73_12 fk_0_111 sh34 rfl ?_
  obtain ⟨u109, g108, hc110, hE⟩ := zbd_some hE
  refine y_invVv (j := 59) (As := [.ref 4, .int (g 34 0)]) (rest := []) (N := zm59) (F59 K 4 (g 34 0) tol4 _ u109 g108 hc110 (d + 1)) k73_15 lk_0_167 zm59_get na59 rfl (Nat.le_of_ble_eq_true rfl) sh183 (by decide) rfl ?_
  refine y_aload_n k73_18 rfl rfl ?_
  refine y_getR k73_19 fk_0_50 sh0 rfl ?_
  refine y_aload_n k73_22 rfl rfl ?_
  refine y_getR k73_23 fk_0_43 sh0 rfl ?_
  obtain ⟨r112, g111, hc113, hE⟩ := zbd_some hE
  refine y_invVi (j := 74) (As := [.ref 180]) (rest := []) (N := zm74) (F74 K 180 li180 _ r112 g111 hc113 (d + 0)) k73_26 lk_0_171 zm74_get na74 rfl (Nat.le_of_ble_eq_true rfl) sh183 (by decide) rfl ?_
  by_cases c114 : r112 = 0
  · rw [if_pos c114] at hE
    refine y_ifT (tgt := 36) k73_29 (by decide) c114 ?_
    refine y_iconst (v := 0) k73_36 oi_0 ?_
    obtain ⟨rfl, rfl⟩ := zpr hE
    exact y_iret k73_37 rfl
  · rw [if_neg c114] at hE
    refine y_ifF 36 k73_29 (by decide) c114 ?_
    refine y_iconst (v := 1) k73_32 oi_1 ?_
    refine y_goto (tgt := 37) k73_33 (by decide) ?_
    obtain ⟨rfl, rfl⟩ := zpr hE
    exact y_iret k73_37 rfl
-- AdjectiveCoupons$Trials.tryOrders
def f101_66 (K : Nat) (k30 : Int32 → Int32 → zS → Option (Unit × zS)) (x4 : Int32) (g : zS) : Option (Unit × zS) := zbd (f107 K 214 g) fun r156 g155 => k30 r156 (x4 + 1) g155
def f101_30 (K : Nat) : Nat → Int32 → Int32 → zS → Option (Unit × zS)
  | 0, _, _, _ => none
  | n + 1, x3, x4, g => if 720 ≤ x4 then some ((), g) else if x3 = 0 then some ((), g) else (zbd (f74 K 214 g) fun r159 g158 => if r159 = 0 then f101_66 K (f101_30 K n) x4 g158 else (zbd (f60 K 214 0 g158) fun r162 g161 => zbd (f105 K r162 g161) fun _ g164 => f101_66 K (f101_30 K n) x4 g164))
def f101 (K : Nat) (o1 : Nat) (g : zS) : Option (Unit × zS) := zbd (f102 K 214 o1 (zup (zup g 213 3 (-1)) 213 4 (-1))) fun _ g170 => zbd (f103 K 214 g170) fun _ g173 => f101_30 K K 1 0 g173
theorem F101_66 {L : Nat} {xs : Nat → Int32} {d : Nat} (K : Nat) (k30 : Int32 → Int32 → zS → Option (Unit × zS)) (hk30 : ∀ (x3 : Int32) (x4 : Int32) (g : zS) (r : Unit) (g' : zS), k30 x3 x4 g = some (r, g') → zG2 L xs (d + 4) zm101 30 [some (.ref 213), none, some (.ref 183), some (.int x3), some (.int x4)] [] g none g') (x4 : Int32) (g : zS) (r : Unit) (g' : zS) (hE : f101_66 K k30 x4 g = some (r, g')) : zG2 L xs (d + 4) zm101 66 [some (.ref 213), none, some (.ref 183), none, some (.int x4)] [] g none g' := by
  unfold f101_66 at hE
  refine y_aload_n k101_66 rfl rfl ?_
  refine y_getR k101_67 fk_9_12 sh213 rfl ?_
  obtain ⟨r156, g155, hc157, hE⟩ := zbd_some hE
  refine y_invVi (j := 107) (As := []) (rest := []) (N := zm107) (F107 K 214 li214 _ r156 g155 hc157 (d + 1)) k101_70 lk_9_57 zm107_get na107 rfl (Nat.le_of_ble_eq_true rfl) sh214 (by decide) rfl ?_
  refine y_istore_n (ls2 := [some (.ref 213), none, some (.ref 183), some (.int r156), some (.int x4)]) k101_73 rfl (Nat.le_of_ble_eq_true rfl) rfl ?_
  refine y_iinc (v := (x4 + 1)) (ls2 := [some (.ref 213), none, some (.ref 183), some (.int r156), some (.int (x4 + 1))]) k101_74 rfl rfl (by rw [oi_1]) rfl ?_
  refine y_goto (tgt := 30) k101_77 (by decide) ?_
  exact hk30 r156 (x4 + 1) _ _ _ hE
theorem F101_30 {L : Nat} {xs : Nat → Int32} {d : Nat} (K : Nat) : ∀ (n : Nat) (x3 : Int32) (x4 : Int32) (g : zS) (r : Unit) (g' : zS) (hE : f101_30 K n x3 x4 g = some (r, g')), zG2 L xs (d + 4) zm101 30 [some (.ref 213), none, some (.ref 183), some (.int x3), some (.int x4)] [] g none g' := by
  intro n
  induction n with
  | zero => intro x3 x4  g r g' hE; cases hE
  | succ n ih =>
    intro x3 x4  g r g' hE
    rw [f101_30] at hE
    refine y_iload k101_30 rfl ?_
    refine y_sipush (v := 720) k101_32 s16_720 ?_
    by_cases c169 : 720 ≤ x4
    · rw [if_pos c169] at hE
      refine y_icT (tgt := 80) k101_35 (by decide) c169 ?_
      obtain ⟨rfl, rfl⟩ := zpr hE
      exact y_vret k101_80 rfl
    · rw [if_neg c169] at hE
      refine y_icF 80 k101_35 (by decide) c169 ?_
      refine y_iload_n k101_38 rfl ?_
      by_cases c168 : x3 = 0
      · rw [if_pos c168] at hE
        refine y_ifT (tgt := 80) k101_39 (by decide) c168 ?_
        obtain ⟨rfl, rfl⟩ := zpr hE
        exact y_vret k101_80 rfl
      · rw [if_neg c168] at hE
        refine y_ifF 80 k101_39 (by decide) c168 ?_
        refine y_aload_n k101_42 rfl rfl ?_
        refine y_aload_n k101_43 rfl rfl ?_
        refine y_getR k101_44 fk_9_12 sh213 rfl ?_
        obtain ⟨r159, g158, hc160, hE⟩ := zbd_some hE
        refine y_invVi (j := 74) (As := [.ref 214]) (rest := []) (N := zm74) (F74 K 214 li214 _ r159 g158 hc160 (d + 0)) k101_47 lk_9_44 zm74_get na74 rfl (Nat.le_of_ble_eq_true rfl) sh183 (by decide) rfl ?_
        by_cases c167 : r159 = 0
        · rw [if_pos c167] at hE
          refine y_ifT (tgt := 66) k101_50 (by decide) c167 ?_
          exact y_weak (ls0 := [some (.ref 213), none, some (.ref 183), none, some (.int x4)]) ⟨rfl, rfl, rfl, rfl, rfl, trivial⟩ (F101_66 K (f101_30 K n) ih x4 _ _ _ hE)
        · rw [if_neg c167] at hE
          refine y_ifF 66 k101_50 (by decide) c167 ?_
          refine y_aload_n k101_53 rfl rfl ?_
          refine y_aload_n k101_54 rfl rfl ?_
          refine y_aload_n k101_55 rfl rfl ?_
          refine y_getR k101_56 fk_9_12 sh213 rfl ?_
          refine y_iconst (v := 0) k101_59 oi_0 ?_
          obtain ⟨r162, g161, hc163, hE⟩ := zbd_some hE
          refine y_invVi (j := 60) (As := [.ref 214, .int 0]) (rest := [.ref 213]) (N := zm60) (F60 K 214 0 li214 _ r162 g161 hc163 (d + 0)) k101_60 lk_9_50 zm60_get na60 rfl (Nat.le_of_ble_eq_true rfl) sh183 (by decide) rfl ?_
          obtain ⟨u165, g164, hc166, hE⟩ := zbd_some hE
          refine y_invVv (j := 105) (As := [.int r162]) (rest := []) (N := zm105) (F105 K r162 _ u165 g164 hc166 (d + 1)) k101_63 lk_9_54 zm105_get na105 rfl (Nat.le_of_ble_eq_true rfl) sh213 (by decide) rfl ?_
          exact y_weak (ls0 := [some (.ref 213), none, some (.ref 183), none, some (.int x4)]) ⟨rfl, rfl, rfl, rfl, rfl, trivial⟩ (F101_66 K (f101_30 K n) ih x4 _ _ _ hE)
theorem F101 {L : Nat} {xs : Nat → Int32} (K : Nat) (o1 : Nat) (h1 : zLine o1) (g : zS) (r : Unit) (g' : zS) (hE : f101 K o1 g = some (r, g')) (d : Nat) : zE2 L xs (d + 5) 101 [.ref 213, .ref o1, .ref 183] g none g' := by
  refine y_ev (n := 0) (d := d + 4) (ls := [some (.ref 213), some (.ref o1), some (.ref 183), none, none]) zm101_get (by decide) (Nat.le_of_ble_eq_true rfl) rfl ?_
  unfold f101 at hE
  refine y_aload_n k101_0 rfl rfl ?_
  refine y_iconst (v := (-1)) k101_1 oi_m1 ?_
  refine y_putI k101_2 fk_9_30 sh213 rfl pi_9_3.1 pi_9_3.2 ?_
  refine y_aload_n k101_5 rfl rfl ?_
  refine y_iconst (v := (-1)) k101_6 oi_m1 ?_
  refine y_putI k101_7 fk_9_34 sh213 rfl pi_9_4.1 pi_9_4.2 ?_
  refine y_aload_n k101_10 rfl rfl ?_
  refine y_getR k101_11 fk_9_12 sh213 rfl ?_
  refine y_aload_n k101_14 rfl rfl ?_
  obtain ⟨u171, g170, hc172, hE⟩ := zbd_some hE
  refine y_invVv (j := 102) (As := [.ref o1]) (rest := []) (N := zm102) (F102 K 214 o1 li214 h1 _ u171 g170 hc172 (d + 2)) k101_15 lk_9_37 zm102_get na102 rfl (Nat.le_of_ble_eq_true rfl) sh214 (by decide) rfl ?_
  refine y_aload_n k101_18 rfl rfl ?_
  refine y_getR k101_19 fk_9_12 sh213 rfl ?_
  obtain ⟨u174, g173, hc175, hE⟩ := zbd_some hE
  refine y_invVv (j := 103) (As := []) (rest := []) (N := zm103) (F103 K 214 li214 _ u174 g173 hc175 (d + 1)) k101_22 lk_9_41 zm103_get na103 rfl (Nat.le_of_ble_eq_true rfl) sh214 (by decide) rfl ?_
  refine y_iconst (v := 1) k101_25 oi_1 ?_
  refine y_istore_n (ls2 := [some (.ref 213), some (.ref o1), some (.ref 183), some (.int 1), none]) k101_26 rfl (Nat.le_of_ble_eq_true rfl) rfl ?_
  refine y_iconst (v := 0) k101_27 oi_0 ?_
  refine y_istore (ls2 := [some (.ref 213), some (.ref o1), some (.ref 183), some (.int 1), some (.int 0)]) k101_28 rfl (Nat.le_of_ble_eq_true rfl) rfl ?_
  exact y_weak (ls0 := [some (.ref 213), none, some (.ref 183), some (.int 1), some (.int 0)]) ⟨rfl, rfl, rfl, rfl, rfl, trivial⟩ (F101_30 K K 1 0 _ _ _ hE)
-- AdjectiveCoupons$Trials.tryOmissions
def f110_76 (K : Nat) (k14 : Nat → Int32 → Int32 → zS → Option (Unit × zS)) (o1 : Nat) (x3 : Int32) (x4 : Int32) (g : zS) : Option (Unit × zS) := k14 o1 x3 (x4 + 1) g
def f110_14 (K : Nat) : Nat → Nat → Int32 → Int32 → zS → Option (Unit × zS)
  | 0, _, _, _, _ => none
  | n + 1, o1, x3, x4, g => if (1 <<< ((g o1 1) &&& 31)) ≤ x4 then some ((), g) else (zbd (f111 K x4 g) fun r141 g140 => if (g140 213 3) ≤ r141 then f110_76 K (f110_14 K n) o1 x3 x4 g140 else (zbd (f112 K o1 x4 g140) fun r144 g143 => if r144 = 0 then f110_76 K (f110_14 K n) o1 x3 x4 g143 else (zbd (f60 K 214 0 g143) fun r147 g146 => if x3 < r147 then f110_76 K (f110_14 K n) o1 x3 x4 g146 else (f110_76 K (f110_14 K n) o1 x3 x4 (zup (zup g146 213 3 r141) 213 5 x4)))))
def f110 (K : Nat) (o1 : Nat) (x3 : Int32) (g : zS) : Option (Unit × zS) := f110_14 K K o1 x3 0 (zup (zup g 213 3 9) 213 5 0)
theorem F110_76 {L : Nat} {xs : Nat → Int32} {d : Nat} (K : Nat) (k14 : Nat → Int32 → Int32 → zS → Option (Unit × zS)) (hk14 : ∀ (o1 : Nat) (x3 : Int32) (x4 : Int32) (h1 : zLine o1) (g : zS) (r : Unit) (g' : zS), k14 o1 x3 x4 g = some (r, g') → zG2 L xs (d + 4) zm110 14 [some (.ref 213), some (.ref o1), some (.ref 183), some (.int x3), some (.int x4), none] [] g none g') (o1 : Nat) (x3 : Int32) (x4 : Int32) (h1 : zLine o1) (g : zS) (r : Unit) (g' : zS) (hE : f110_76 K k14 o1 x3 x4 g = some (r, g')) : zG2 L xs (d + 4) zm110 76 [some (.ref 213), some (.ref o1), some (.ref 183), some (.int x3), some (.int x4), none] [] g none g' := by
  unfold f110_76 at hE
  refine y_iinc (v := (x4 + 1)) (ls2 := [some (.ref 213), some (.ref o1), some (.ref 183), some (.int x3), some (.int (x4 + 1)), none]) k110_76 rfl rfl (by rw [oi_1]) rfl ?_
  refine y_goto (tgt := 14) k110_79 (by decide) ?_
  exact hk14 o1 x3 (x4 + 1) h1 _ _ _ hE
theorem F110_14 {L : Nat} {xs : Nat → Int32} {d : Nat} (K : Nat) : ∀ (n : Nat) (o1 : Nat) (x3 : Int32) (x4 : Int32) (h1 : zLine o1) (g : zS) (r : Unit) (g' : zS) (hE : f110_14 K n o1 x3 x4 g = some (r, g')), zG2 L xs (d + 4) zm110 14 [some (.ref 213), some (.ref o1), some (.ref 183), some (.int x3), some (.int x4), none] [] g none g' := by
  intro n
  induction n with
  | zero => intro o1 x3 x4 h1 g r g' hE; cases hE
  | succ n ih =>
    intro o1 x3 x4 h1 g r g' hE
    rw [f110_14] at hE
    refine y_iload k110_14 rfl ?_
    refine y_iconst (v := 1) k110_16 oi_1 ?_
    refine y_aload_n k110_17 rfl rfl ?_
    refine y_getI k110_18 fk_9_70 h1.1 rfl ?_
    refine y_ishl k110_21 ?_
    by_cases c152 : (1 <<< ((g o1 1) &&& 31)) ≤ x4
    · rw [if_pos c152] at hE
      refine y_icT (tgt := 82) k110_22 (by decide) c152 ?_
      obtain ⟨rfl, rfl⟩ := zpr hE
      exact y_vret k110_82 rfl
    · rw [if_neg c152] at hE
      refine y_icF 82 k110_22 (by decide) c152 ?_
      refine y_iload k110_25 rfl ?_
      obtain ⟨r141, g140, hc142, hE⟩ := zbd_some hE
      refine y_invSi (j := 111) (As := [.int x4]) (rest := []) (N := zm111) (F111 K x4 _ r141 g140 hc142 (d + 3)) k110_27 lk_9_73 zm111_get na111 rfl (Nat.le_of_ble_eq_true rfl) ?_
      refine y_istore (ls2 := [some (.ref 213), some (.ref o1), some (.ref 183), some (.int x3), some (.int x4), some (.int r141)]) k110_30 rfl (Nat.le_of_ble_eq_true rfl) rfl ?_
      refine y_iload k110_32 rfl ?_
      refine y_aload_n k110_34 rfl rfl ?_
      refine y_getI k110_35 fk_9_30 sh213 rfl ?_
      by_cases c151 : (g140 213 3) ≤ r141
      · rw [if_pos c151] at hE
        refine y_icT (tgt := 76) k110_38 (by decide) c151 ?_
        exact y_weak (ls0 := [some (.ref 213), some (.ref o1), some (.ref 183), some (.int x3), some (.int x4), none]) ⟨rfl, rfl, rfl, rfl, rfl, rfl, trivial⟩ (F110_76 K (f110_14 K n) ih o1 x3 x4 h1 _ _ _ hE)
      · rw [if_neg c151] at hE
        refine y_icF 76 k110_38 (by decide) c151 ?_
        refine y_aload_n k110_41 rfl rfl ?_
        refine y_aload_n k110_42 rfl rfl ?_
        refine y_iload k110_43 rfl ?_
        obtain ⟨r144, g143, hc145, hE⟩ := zbd_some hE
        refine y_invVi (j := 112) (As := [.ref o1, .int x4]) (rest := []) (N := zm112) (F112 K o1 x4 h1 _ r144 g143 hc145 (d + 1)) k110_45 lk_9_79 zm112_get na112 rfl (Nat.le_of_ble_eq_true rfl) sh213 (by decide) rfl ?_
        by_cases c150 : r144 = 0
        · rw [if_pos c150] at hE
          refine y_ifT (tgt := 76) k110_48 (by decide) c150 ?_
          exact y_weak (ls0 := [some (.ref 213), some (.ref o1), some (.ref 183), some (.int x3), some (.int x4), none]) ⟨rfl, rfl, rfl, rfl, rfl, rfl, trivial⟩ (F110_76 K (f110_14 K n) ih o1 x3 x4 h1 _ _ _ hE)
        · rw [if_neg c150] at hE
          refine y_ifF 76 k110_48 (by decide) c150 ?_
          refine y_aload_n k110_51 rfl rfl ?_
          refine y_aload_n k110_52 rfl rfl ?_
          refine y_getR k110_53 fk_9_12 sh213 rfl ?_
          refine y_iconst (v := 0) k110_56 oi_0 ?_
          obtain ⟨r147, g146, hc148, hE⟩ := zbd_some hE
          refine y_invVi (j := 60) (As := [.ref 214, .int 0]) (rest := []) (N := zm60) (F60 K 214 0 li214 _ r147 g146 hc148 (d + 0)) k110_57 lk_9_50 zm60_get na60 rfl (Nat.le_of_ble_eq_true rfl) sh183 (by decide) rfl ?_
          refine y_iload_n k110_60 rfl ?_
          by_cases c149 : x3 < r147
          · rw [if_pos c149] at hE
            refine y_icT (tgt := 76) k110_61 (by decide) c149 ?_
            exact y_weak (ls0 := [some (.ref 213), some (.ref o1), some (.ref 183), some (.int x3), some (.int x4), none]) ⟨rfl, rfl, rfl, rfl, rfl, rfl, trivial⟩ (F110_76 K (f110_14 K n) ih o1 x3 x4 h1 _ _ _ hE)
          · rw [if_neg c149] at hE
            refine y_icF 76 k110_61 (by decide) c149 ?_
            refine y_aload_n k110_64 rfl rfl ?_
            refine y_iload k110_65 rfl ?_
            refine y_putI k110_67 fk_9_30 sh213 rfl pi_9_3.1 pi_9_3.2 ?_
            refine y_aload_n k110_70 rfl rfl ?_
            refine y_iload k110_71 rfl ?_
            refine y_putI k110_73 fk_9_67 sh213 rfl pi_9_5.1 pi_9_5.2 ?_
            exact y_weak (ls0 := [some (.ref 213), some (.ref o1), some (.ref 183), some (.int x3), some (.int x4), none]) ⟨rfl, rfl, rfl, rfl, rfl, rfl, trivial⟩ (F110_76 K (f110_14 K n) ih o1 x3 x4 h1 _ _ _ hE)
theorem F110 {L : Nat} {xs : Nat → Int32} (K : Nat) (o1 : Nat) (x3 : Int32) (h1 : zLine o1) (g : zS) (r : Unit) (g' : zS) (hE : f110 K o1 x3 g = some (r, g')) (d : Nat) : zE2 L xs (d + 5) 110 [.ref 213, .ref o1, .ref 183, .int x3] g none g' := by
  refine y_ev (n := 0) (d := d + 4) (ls := [some (.ref 213), some (.ref o1), some (.ref 183), some (.int x3), none, none]) zm110_get (by decide) (Nat.le_of_ble_eq_true rfl) rfl ?_
  unfold f110 at hE
  refine y_aload_n k110_0 rfl rfl ?_
  refine y_bipush (v := 9) k110_1 b8_9 ?_
  refine y_putI k110_3 fk_9_30 sh213 rfl pi_9_3.1 pi_9_3.2 ?_
  refine y_aload_n k110_6 rfl rfl ?_
  refine y_iconst (v := 0) k110_7 oi_0 ?_
  refine y_putI k110_8 fk_9_67 sh213 rfl pi_9_5.1 pi_9_5.2 ?_
  refine y_iconst (v := 0) k110_11 oi_0 ?_
  refine y_istore (ls2 := [some (.ref 213), some (.ref o1), some (.ref 183), some (.int x3), some (.int 0), none]) k110_12 rfl (Nat.le_of_ble_eq_true rfl) rfl ?_
  exact F110_14 K K o1 x3 0 h1 _ _ _ hE
-- AdjectiveCoupons$Trials.tryFillings
def f114_131 (K : Nat) (k65 : Nat → Int32 → Int32 → Int32 → Int32 → Int32 → zS → Option (Unit × zS)) (o1 : Nat) (x3 : Int32) (x4 : Int32) (x5 : Int32) (x7 : Int32) (g : zS) : Option (Unit × zS) := zbd (f117 K o1 x5 x3 g) fun r213 g212 => k65 o1 x3 x4 x5 r213 (x7 + 1) g212
def f114_121 (K : Nat) (k65 : Nat → Int32 → Int32 → Int32 → Int32 → Int32 → zS → Option (Unit × zS)) (o1 : Nat) (x3 : Int32) (x4 : Int32) (x5 : Int32) (x7 : Int32) (g : zS) : Option (Unit × zS) := f114_131 K k65 o1 x3 x4 x5 x7 (zup g 213 6 ((g 213 6) + 1))
def f114_65 (K : Nat) : Nat → Nat → Int32 → Int32 → Int32 → Int32 → Int32 → zS → Option (Unit × zS)
  | 0, _, _, _, _, _, _, _ => none
  | n + 1, o1, x3, x4, x5, x6, x7, g => if 1000 ≤ x7 then some ((), g) else if x6 = 0 then some ((), g) else (zbd (f74 K 214 g) fun r216 g215 => if r216 = 0 then f114_131 K (f114_65 K n) o1 x3 x4 x5 x7 g215 else (zbd (f60 K 214 0 g215) fun r219 g218 => if ¬ r219 = x4 then f114_131 K (f114_65 K n) o1 x3 x4 x5 x7 g218 else if ¬ (g218 213 6) = 0 then f114_121 K (f114_65 K n) o1 x3 x4 x5 x7 g218 else (zbd (f102 K 217 214 g218) fun _ g221 => f114_121 K (f114_65 K n) o1 x3 x4 x5 x7 g221)))
def f114_32 (K : Nat) : Nat → Nat → Int32 → Int32 → Int32 → Int32 → zS → Option (Unit × zS)
  | 0, _, _, _, _, _, _ => none
  | n + 1, o1, x3, x4, x5, x6, g => if x5 ≤ x6 then f114_65 K K o1 x3 x4 x5 1 0 g else (zbd (f115 K o1 x6 g) fun r230 g229 => zbd (f116 K 214 r230 0 g229) fun _ g232 => (f114_32 K n) o1 x3 x4 x5 (x6 + 1) g232)
def f114_21 (K : Nat) (o1 : Nat) (x3 : Int32) (x4 : Int32) (x5 : Int32) (g : zS) : Option (Unit × zS) := zbd (f102 K 214 o1 g) fun _ g236 => f114_32 K K o1 x3 x4 x5 0 g236
def f114 (K : Nat) (o1 : Nat) (x3 : Int32) (x4 : Int32) (g : zS) : Option (Unit × zS) := zbd (f77 K o1 (zup g 213 6 0)) fun r240 g239 => if r240 ≤ 0 then f114_21 K o1 x3 x4 r240 g239 else if ¬ x3 = 0 then f114_21 K o1 x3 x4 r240 g239 else (some ((), g239))
theorem F114_131 {L : Nat} {xs : Nat → Int32} {d : Nat} (K : Nat) (k65 : Nat → Int32 → Int32 → Int32 → Int32 → Int32 → zS → Option (Unit × zS)) (hk65 : ∀ (o1 : Nat) (x3 : Int32) (x4 : Int32) (x5 : Int32) (x6 : Int32) (x7 : Int32) (h1 : zLine o1) (g : zS) (r : Unit) (g' : zS), k65 o1 x3 x4 x5 x6 x7 g = some (r, g') → zG2 L xs (d + 4) zm114 65 [some (.ref 213), some (.ref o1), some (.ref 183), some (.int x3), some (.int x4), some (.int x5), some (.int x6), some (.int x7)] [] g none g') (o1 : Nat) (x3 : Int32) (x4 : Int32) (x5 : Int32) (x7 : Int32) (h1 : zLine o1) (g : zS) (r : Unit) (g' : zS) (hE : f114_131 K k65 o1 x3 x4 x5 x7 g = some (r, g')) : zG2 L xs (d + 4) zm114 131 [some (.ref 213), some (.ref o1), some (.ref 183), some (.int x3), some (.int x4), some (.int x5), none, some (.int x7)] [] g none g' := by
  unfold f114_131 at hE
  refine y_aload_n k114_131 rfl rfl ?_
  refine y_aload_n k114_132 rfl rfl ?_
  refine y_iload k114_133 rfl ?_
  refine y_iload_n k114_135 rfl ?_
  obtain ⟨r213, g212, hc214, hE⟩ := zbd_some hE
  refine y_invVi (j := 117) (As := [.ref o1, .int x5, .int x3]) (rest := []) (N := zm117) (F117 K o1 x5 x3 h1 _ r213 g212 hc214 (d + 1)) k114_136 lk_9_108 zm117_get na117 rfl (Nat.le_of_ble_eq_true rfl) sh213 (by decide) rfl ?_
  refine y_istore (ls2 := [some (.ref 213), some (.ref o1), some (.ref 183), some (.int x3), some (.int x4), some (.int x5), some (.int r213), some (.int x7)]) k114_139 rfl (Nat.le_of_ble_eq_true rfl) rfl ?_
  refine y_iinc (v := (x7 + 1)) (ls2 := [some (.ref 213), some (.ref o1), some (.ref 183), some (.int x3), some (.int x4), some (.int x5), some (.int r213), some (.int (x7 + 1))]) k114_141 rfl rfl (by rw [oi_1]) rfl ?_
  refine y_goto (tgt := 65) k114_144 (by decide) ?_
  exact hk65 o1 x3 x4 x5 r213 (x7 + 1) h1 _ _ _ hE
theorem F114_121 {L : Nat} {xs : Nat → Int32} {d : Nat} (K : Nat) (k65 : Nat → Int32 → Int32 → Int32 → Int32 → Int32 → zS → Option (Unit × zS)) (hk65 : ∀ (o1 : Nat) (x3 : Int32) (x4 : Int32) (x5 : Int32) (x6 : Int32) (x7 : Int32) (h1 : zLine o1) (g : zS) (r : Unit) (g' : zS), k65 o1 x3 x4 x5 x6 x7 g = some (r, g') → zG2 L xs (d + 4) zm114 65 [some (.ref 213), some (.ref o1), some (.ref 183), some (.int x3), some (.int x4), some (.int x5), some (.int x6), some (.int x7)] [] g none g') (o1 : Nat) (x3 : Int32) (x4 : Int32) (x5 : Int32) (x7 : Int32) (h1 : zLine o1) (g : zS) (r : Unit) (g' : zS) (hE : f114_121 K k65 o1 x3 x4 x5 x7 g = some (r, g')) : zG2 L xs (d + 4) zm114 121 [some (.ref 213), some (.ref o1), some (.ref 183), some (.int x3), some (.int x4), some (.int x5), none, some (.int x7)] [] g none g' := by
  unfold f114_121 at hE
  refine y_aload_n k114_121 rfl rfl ?_
  refine y_dup k114_122 rfl ?_
  refine y_getI k114_123 fk_9_94 sh213 rfl ?_
  refine y_iconst (v := 1) k114_126 oi_1 ?_
  refine y_iadd k114_127 ?_
  refine y_putI k114_128 fk_9_94 sh213 rfl pi_9_6.1 pi_9_6.2 ?_
  exact F114_131 K k65 hk65 o1 x3 x4 x5 x7 h1 _ _ _ hE
theorem F114_65 {L : Nat} {xs : Nat → Int32} {d : Nat} (K : Nat) : ∀ (n : Nat) (o1 : Nat) (x3 : Int32) (x4 : Int32) (x5 : Int32) (x6 : Int32) (x7 : Int32) (h1 : zLine o1) (g : zS) (r : Unit) (g' : zS) (hE : f114_65 K n o1 x3 x4 x5 x6 x7 g = some (r, g')), zG2 L xs (d + 4) zm114 65 [some (.ref 213), some (.ref o1), some (.ref 183), some (.int x3), some (.int x4), some (.int x5), some (.int x6), some (.int x7)] [] g none g' := by
  intro n
  induction n with
  | zero => intro o1 x3 x4 x5 x6 x7 h1 g r g' hE; cases hE
  | succ n ih =>
    intro o1 x3 x4 x5 x6 x7 h1 g r g' hE
    rw [f114_65] at hE
    refine y_iload k114_65 rfl ?_
    refine y_sipush (v := 1000) k114_67 s16_1000 ?_
    by_cases c228 : 1000 ≤ x7
    · rw [if_pos c228] at hE
      refine y_icT (tgt := 147) k114_70 (by decide) c228 ?_
      obtain ⟨rfl, rfl⟩ := zpr hE
      exact y_vret k114_147 rfl
    · rw [if_neg c228] at hE
      refine y_icF 147 k114_70 (by decide) c228 ?_
      refine y_iload k114_73 rfl ?_
      by_cases c227 : x6 = 0
      · rw [if_pos c227] at hE
        refine y_ifT (tgt := 147) k114_75 (by decide) c227 ?_
        obtain ⟨rfl, rfl⟩ := zpr hE
        exact y_vret k114_147 rfl
      · rw [if_neg c227] at hE
        refine y_ifF 147 k114_75 (by decide) c227 ?_
        refine y_aload_n k114_78 rfl rfl ?_
        refine y_aload_n k114_79 rfl rfl ?_
        refine y_getR k114_80 fk_9_12 sh213 rfl ?_
        obtain ⟨r216, g215, hc217, hE⟩ := zbd_some hE
        refine y_invVi (j := 74) (As := [.ref 214]) (rest := []) (N := zm74) (F74 K 214 li214 _ r216 g215 hc217 (d + 0)) k114_83 lk_9_44 zm74_get na74 rfl (Nat.le_of_ble_eq_true rfl) sh183 (by decide) rfl ?_
        by_cases c226 : r216 = 0
        · rw [if_pos c226] at hE
          refine y_ifT (tgt := 131) k114_86 (by decide) c226 ?_
          exact y_weak (ls0 := [some (.ref 213), some (.ref o1), some (.ref 183), some (.int x3), some (.int x4), some (.int x5), none, some (.int x7)]) ⟨rfl, rfl, rfl, rfl, rfl, rfl, rfl, rfl, trivial⟩ (F114_131 K (f114_65 K n) ih o1 x3 x4 x5 x7 h1 _ _ _ hE)
        · rw [if_neg c226] at hE
          refine y_ifF 131 k114_86 (by decide) c226 ?_
          refine y_aload_n k114_89 rfl rfl ?_
          refine y_aload_n k114_90 rfl rfl ?_
          refine y_getR k114_91 fk_9_12 sh213 rfl ?_
          refine y_iconst (v := 0) k114_94 oi_0 ?_
          obtain ⟨r219, g218, hc220, hE⟩ := zbd_some hE
          refine y_invVi (j := 60) (As := [.ref 214, .int 0]) (rest := []) (N := zm60) (F60 K 214 0 li214 _ r219 g218 hc220 (d + 0)) k114_95 lk_9_50 zm60_get na60 rfl (Nat.le_of_ble_eq_true rfl) sh183 (by decide) rfl ?_
          refine y_iload k114_98 rfl ?_
          by_cases c225 : ¬ r219 = x4
          · rw [if_pos c225] at hE
            refine y_icT (tgt := 131) k114_100 (by decide) c225 ?_
            exact y_weak (ls0 := [some (.ref 213), some (.ref o1), some (.ref 183), some (.int x3), some (.int x4), some (.int x5), none, some (.int x7)]) ⟨rfl, rfl, rfl, rfl, rfl, rfl, rfl, rfl, trivial⟩ (F114_131 K (f114_65 K n) ih o1 x3 x4 x5 x7 h1 _ _ _ hE)
          · rw [if_neg c225] at hE
            refine y_icF 131 k114_100 (by decide) c225 ?_
            refine y_aload_n k114_103 rfl rfl ?_
            refine y_getI k114_104 fk_9_94 sh213 rfl ?_
            by_cases c224 : ¬ (g218 213 6) = 0
            · rw [if_pos c224] at hE
              refine y_ifT (tgt := 121) k114_107 (by decide) c224 ?_
              exact y_weak (ls0 := [some (.ref 213), some (.ref o1), some (.ref 183), some (.int x3), some (.int x4), some (.int x5), none, some (.int x7)]) ⟨rfl, rfl, rfl, rfl, rfl, rfl, rfl, rfl, trivial⟩ (F114_121 K (f114_65 K n) ih o1 x3 x4 x5 x7 h1 _ _ _ hE)
            · rw [if_neg c224] at hE
              refine y_ifF 121 k114_107 (by decide) c224 ?_
              refine y_aload_n k114_110 rfl rfl ?_
              refine y_getR k114_111 fk_9_18 sh213 rfl ?_
              refine y_aload_n k114_114 rfl rfl ?_
              refine y_getR k114_115 fk_9_12 sh213 rfl ?_
              obtain ⟨u222, g221, hc223, hE⟩ := zbd_some hE
              refine y_invVv (j := 102) (As := [.ref 214]) (rest := []) (N := zm102) (F102 K 217 214 li217 li214 _ u222 g221 hc223 (d + 2)) k114_118 lk_9_37 zm102_get na102 rfl (Nat.le_of_ble_eq_true rfl) sh217 (by decide) rfl ?_
              exact y_weak (ls0 := [some (.ref 213), some (.ref o1), some (.ref 183), some (.int x3), some (.int x4), some (.int x5), none, some (.int x7)]) ⟨rfl, rfl, rfl, rfl, rfl, rfl, rfl, rfl, trivial⟩ (F114_121 K (f114_65 K n) ih o1 x3 x4 x5 x7 h1 _ _ _ hE)
theorem F114_32 {L : Nat} {xs : Nat → Int32} {d : Nat} (K : Nat) : ∀ (n : Nat) (o1 : Nat) (x3 : Int32) (x4 : Int32) (x5 : Int32) (x6 : Int32) (h1 : zLine o1) (g : zS) (r : Unit) (g' : zS) (hE : f114_32 K n o1 x3 x4 x5 x6 g = some (r, g')), zG2 L xs (d + 4) zm114 32 [some (.ref 213), some (.ref o1), some (.ref 183), some (.int x3), some (.int x4), some (.int x5), some (.int x6), none] [] g none g' := by
  intro n
  induction n with
  | zero => intro o1 x3 x4 x5 x6 h1 g r g' hE; cases hE
  | succ n ih =>
    intro o1 x3 x4 x5 x6 h1 g r g' hE
    rw [f114_32] at hE
    refine y_iload k114_32 rfl ?_
    refine y_iload k114_34 rfl ?_
    by_cases c235 : x5 ≤ x6
    · rw [if_pos c235] at hE
      refine y_icT (tgt := 59) k114_36 (by decide) c235 ?_
      refine y_iconst (v := 1) k114_59 oi_1 ?_
      refine y_istore (ls2 := [some (.ref 213), some (.ref o1), some (.ref 183), some (.int x3), some (.int x4), some (.int x5), some (.int 1), none]) k114_60 rfl (Nat.le_of_ble_eq_true rfl) rfl ?_
      refine y_iconst (v := 0) k114_62 oi_0 ?_
      refine y_istore (ls2 := [some (.ref 213), some (.ref o1), some (.ref 183), some (.int x3), some (.int x4), some (.int x5), some (.int 1), some (.int 0)]) k114_63 rfl (Nat.le_of_ble_eq_true rfl) rfl ?_
      exact F114_65 K K o1 x3 x4 x5 1 0 h1 _ _ _ hE
    · rw [if_neg c235] at hE
      refine y_icF 59 k114_36 (by decide) c235 ?_
      refine y_aload_n k114_39 rfl rfl ?_
      refine y_getR k114_40 fk_9_12 sh213 rfl ?_
      refine y_aload_n k114_43 rfl rfl ?_
      refine y_iload k114_44 rfl ?_
      obtain ⟨r230, g229, hc231, hE⟩ := zbd_some hE
      refine y_invVi (j := 115) (As := [.int x6]) (rest := [.ref 214]) (N := zm115) (F115 K o1 x6 h1 _ r230 g229 hc231 (d + 2)) k114_46 lk_9_101 zm115_get na115 rfl (Nat.le_of_ble_eq_true rfl) h1.1 (by decide) rfl ?_
      refine y_iconst (v := 0) k114_49 oi_0 ?_
      obtain ⟨u233, g232, hc234, hE⟩ := zbd_some hE
      refine y_invVv (j := 116) (As := [.int r230, .int 0]) (rest := []) (N := zm116) (F116 K 214 r230 0 li214 _ u233 g232 hc234 (d + 2)) k114_50 lk_9_104 zm116_get na116 rfl (Nat.le_of_ble_eq_true rfl) sh214 (by decide) rfl ?_
      refine y_iinc (v := (x6 + 1)) (ls2 := [some (.ref 213), some (.ref o1), some (.ref 183), some (.int x3), some (.int x4), some (.int x5), some (.int (x6 + 1)), none]) k114_53 rfl rfl (by rw [oi_1]) rfl ?_
      refine y_goto (tgt := 32) k114_56 (by decide) ?_
      exact ih o1 x3 x4 x5 (x6 + 1) h1 _ _ _ hE
theorem F114_21 {L : Nat} {xs : Nat → Int32} {d : Nat} (K : Nat) (o1 : Nat) (x3 : Int32) (x4 : Int32) (x5 : Int32) (h1 : zLine o1) (g : zS) (r : Unit) (g' : zS) (hE : f114_21 K o1 x3 x4 x5 g = some (r, g')) : zG2 L xs (d + 4) zm114 21 [some (.ref 213), some (.ref o1), some (.ref 183), some (.int x3), some (.int x4), some (.int x5), none, none] [] g none g' := by
  unfold f114_21 at hE
  refine y_aload_n k114_21 rfl rfl ?_
  refine y_getR k114_22 fk_9_12 sh213 rfl ?_
  refine y_aload_n k114_25 rfl rfl ?_
  obtain ⟨u237, g236, hc238, hE⟩ := zbd_some hE
  refine y_invVv (j := 102) (As := [.ref o1]) (rest := []) (N := zm102) (F102 K 214 o1 li214 h1 _ u237 g236 hc238 (d + 2)) k114_26 lk_9_37 zm102_get na102 rfl (Nat.le_of_ble_eq_true rfl) sh214 (by decide) rfl ?_
  refine y_iconst (v := 0) k114_29 oi_0 ?_
  refine y_istore (ls2 := [some (.ref 213), some (.ref o1), some (.ref 183), some (.int x3), some (.int x4), some (.int x5), some (.int 0), none]) k114_30 rfl (Nat.le_of_ble_eq_true rfl) rfl ?_
  exact F114_32 K K o1 x3 x4 x5 0 h1 _ _ _ hE
theorem F114 {L : Nat} {xs : Nat → Int32} (K : Nat) (o1 : Nat) (x3 : Int32) (x4 : Int32) (h1 : zLine o1) (g : zS) (r : Unit) (g' : zS) (hE : f114 K o1 x3 x4 g = some (r, g')) (d : Nat) : zE2 L xs (d + 5) 114 [.ref 213, .ref o1, .ref 183, .int x3, .int x4] g none g' := by
  refine y_ev (n := 0) (d := d + 4) (ls := [some (.ref 213), some (.ref o1), some (.ref 183), some (.int x3), some (.int x4), none, none, none]) zm114_get (by decide) (Nat.le_of_ble_eq_true rfl) rfl ?_
  unfold f114 at hE
  refine y_aload_n k114_0 rfl rfl ?_
  refine y_iconst (v := 0) k114_1 oi_0 ?_
  refine y_putI k114_2 fk_9_94 sh213 rfl pi_9_6.1 pi_9_6.2 ?_
  refine y_aload_n k114_5 rfl rfl ?_
  obtain ⟨r240, g239, hc241, hE⟩ := zbd_some hE
  refine y_invVi (j := 77) (As := []) (rest := []) (N := zm77) (F77 K o1 h1 _ r240 g239 hc241 (d + 2)) k114_6 lk_9_97 zm77_get na77 rfl (Nat.le_of_ble_eq_true rfl) h1.1 (by decide) rfl ?_
  refine y_istore (ls2 := [some (.ref 213), some (.ref o1), some (.ref 183), some (.int x3), some (.int x4), some (.int r240), none, none]) k114_9 rfl (Nat.le_of_ble_eq_true rfl) rfl ?_
  refine y_iload k114_11 rfl ?_
  by_cases c243 : r240 ≤ 0
  · rw [if_pos c243] at hE
    refine y_ifT (tgt := 21) k114_13 (by decide) c243 ?_
    exact F114_21 K o1 x3 x4 r240 h1 _ _ _ hE
  · rw [if_neg c243] at hE
    refine y_ifF 21 k114_13 (by decide) c243 ?_
    refine y_iload_n k114_16 rfl ?_
    by_cases c242 : ¬ x3 = 0
    · rw [if_pos c242] at hE
      refine y_ifT (tgt := 21) k114_17 (by decide) c242 ?_
      exact F114_21 K o1 x3 x4 r240 h1 _ _ _ hE
    · rw [if_neg c242] at hE
      refine y_ifF 21 k114_17 (by decide) c242 ?_
      obtain ⟨rfl, rfl⟩ := zpr hE
      exact y_vret k114_20 rfl
-- AdjectiveCoupons.drafted
def f122 (K : Nat) (x1 : Int32) (x2 : Int32) (x3 : Int32) (g : zS) : Option (Int32 × zS) := zbd (f12 K x1 0 ((g 186 4) - 1) g) fun r129 g128 => if r129 = 0 then some ((-2), g128) else (zbd (f53 K x2 g128) fun r132 g131 => if ¬ r132 = 0 then zbd (f120 K x1 g131) fun q135 g134 => if x3 = 0 then some ((g134 q135 1), g134) else if x3 = 1 then zbd (f59 K 4 (g134 34 0) g134) fun _ g140 => zbd (f54 K 4 x2 g140) fun r144 g143 => zbd (f60 K q135 r144 g143) fun r147 g146 => some (r147, g146) else if x3 = 2 then zbd (f83 K 4 q135 g134) fun r151 g150 => some (r151, g150) else (some ((-3), g134)) else (some ((-2), g131)))
theorem F122 {L : Nat} {xs : Nat → Int32} (K : Nat) (x1 : Int32) (x2 : Int32) (x3 : Int32) (g : zS) (r : Int32) (g' : zS) (hE : f122 K x1 x2 x3 g = some (r, g')) (d : Nat) : zE2 L xs (d + 5) 122 [.ref 0, .int x1, .int x2, .int x3] g (some (.int r)) g' := by
  refine y_ev (n := 0) (d := d + 4) (ls := [some (.ref 0), some (.int x1), some (.int x2), some (.int x3), none]) zm122_get (by decide) (Nat.le_of_ble_eq_true rfl) rfl ?_
  unfold f122 at hE
  refine y_iload_n k122_0 rfl ?_
  refine y_iconst (v := 0) k122_1 oi_0 ?_
  refine y_aload_n k122_2 rfl rfl ?_
  refine y_getR k122_3 fk_0_57 sh0 rfl ?_
  refine y_getI k122_6 fk_0_102 sh186 rfl ?_
  refine y_iconst (v := 1) k122_9 oi_1 ?_
  refine y_isub k122_10 ?_
  obtain ⟨r129, g128, hc130, hE⟩ := zbd_some hE
  refine y_invSi (j := 12) (As := [.int x1, .int 0, .int ((g 186 4) - 1)]) (rest := []) (N := zm12) (F12 K x1 0 ((g 186 4) - 1) _ r129 g128 hc130 (d + 3)) k122_11 lk_0_68 zm12_get na12 rfl (Nat.le_of_ble_eq_true rfl) ?_
  by_cases c154 : r129 = 0
  · rw [if_pos c154] at hE
    refine y_ifT (tgt := 25) k122_14 (by decide) c154 ?_
    refine y_bipush (v := (-2)) k122_25 b8_m2 ?_
    obtain ⟨rfl, rfl⟩ := zpr hE
    exact y_iret k122_27 rfl
  · rw [if_neg c154] at hE
    refine y_ifF 25 k122_14 (by decide) c154 ?_
    refine y_aload_n k122_17 rfl rfl ?_
    refine y_iload_n k122_18 rfl ?_
    obtain ⟨r132, g131, hc133, hE⟩ := zbd_some hE
    refine y_invVi (j := 53) (As := [.int x2]) (rest := []) (N := zm53) (F53 K x2 _ r132 g131 hc133 (d + 2)) k122_19 lk_0_134 zm53_get na53 rfl (Nat.le_of_ble_eq_true rfl) sh0 (by decide) rfl ?_
    by_cases c153 : ¬ r132 = 0
    · rw [if_pos c153] at hE
      refine y_ifT (tgt := 28) k122_22 (by decide) c153 ?_
      refine y_aload_n k122_28 rfl rfl ?_
      refine y_getR k122_29 fk_0_57 sh0 rfl ?_
      refine y_iload_n k122_32 rfl ?_
      obtain ⟨q135, g134, hc136, hE⟩ := zbd_some hE
      have hz137 := P120 hc136
      refine y_invVn (j := 120) (As := [.int x1]) (rest := []) (N := zm120) (F120 K x1 _ q135 g134 hc136 (d + 3)) k122_33 lk_0_265 zm120_get na120 rfl (Nat.le_of_ble_eq_true rfl) sh186 (by decide) rfl ?_
      refine y_astore (ls2 := [some (.ref 0), some (.int x1), some (.int x2), some (.int x3), some (.ref q135)]) k122_36 rfl rfl (Nat.le_of_ble_eq_true rfl) rfl ?_
      refine y_iload_n k122_38 rfl ?_
      by_cases c138 : x3 = 0
      · rw [if_pos c138] at hE
        refine y_tsw (tgt := 64) (off := 25) 0 k122_39 c138 (by decide) (by decide) (by decide) (by decide) ?_
        refine y_aload k122_64 rfl rfl ?_
        refine y_getI k122_66 fk_0_101 hz137.1 rfl ?_
        obtain ⟨rfl, rfl⟩ := zpr hE
        exact y_iret k122_69 rfl
      · rw [if_neg c138] at hE
        by_cases c139 : x3 = 1
        · rw [if_pos c139] at hE
          refine y_tsw (tgt := 70) (off := 31) 1 k122_39 c139 (by decide) (by decide) (by decide) (by decide) ?_
          refine y_aload_n k122_70 rfl rfl ?_
          refine y_getR k122_71 fk_0_50 sh0 rfl ?_
          refine y_aload_n k122_74 rfl rfl ?_
          refine y_getR k122_75 fk_0_19 sh0 rfl ?_
          refine y_aload_n k122_78 rfl rfl ?_
          refine y_getR k122_79 fk_0_29 sh0 rfl ?_
          refine y_getI k122_82 fk_0_111 sh34 rfl ?_
          obtain ⟨u141, g140, hc142, hE⟩ := zbd_some hE
          refine y_invVv (j := 59) (As := [.ref 4, .int (g134 34 0)]) (rest := []) (N := zm59) (F59 K 4 (g134 34 0) tol4 _ u141 g140 hc142 (d + 1)) k122_85 lk_0_167 zm59_get na59 rfl (Nat.le_of_ble_eq_true rfl) sh183 (by decide) rfl ?_
          refine y_aload_n k122_88 rfl rfl ?_
          refine y_getR k122_89 fk_0_50 sh0 rfl ?_
          refine y_aload k122_92 rfl rfl ?_
          refine y_aload_n k122_94 rfl rfl ?_
          refine y_getR k122_95 fk_0_19 sh0 rfl ?_
          refine y_iload_n k122_98 rfl ?_
          obtain ⟨r144, g143, hc145, hE⟩ := zbd_some hE
          refine y_invVi (j := 54) (As := [.int x2]) (rest := [.ref q135, .ref 183]) (N := zm54) (F54 K 4 x2 tol4 _ r144 g143 hc145 (d + 2)) k122_99 lk_0_137 zm54_get na54 rfl (Nat.le_of_ble_eq_true rfl) sh4 (by decide) rfl ?_
          obtain ⟨r147, g146, hc148, hE⟩ := zbd_some hE
          refine y_invVi (j := 60) (As := [.ref q135, .int r144]) (rest := []) (N := zm60) (F60 K q135 r144 hz137 _ r147 g146 hc148 (d + 0)) k122_102 lk_0_268 zm60_get na60 rfl (Nat.le_of_ble_eq_true rfl) sh183 (by decide) rfl ?_
          obtain ⟨rfl, rfl⟩ := zpr hE
          exact y_iret k122_105 rfl
        · rw [if_neg c139] at hE
          by_cases c149 : x3 = 2
          · rw [if_pos c149] at hE
            refine y_tsw (tgt := 106) (off := 67) 2 k122_39 c149 (by decide) (by decide) (by decide) (by decide) ?_
            refine y_aload_n k122_106 rfl rfl ?_
            refine y_getR k122_107 fk_0_19 sh0 rfl ?_
            refine y_aload k122_110 rfl rfl ?_
            obtain ⟨r151, g150, hc152, hE⟩ := zbd_some hE
            refine y_invVi (j := 83) (As := [.ref q135]) (rest := []) (N := zm83) (F83 K 4 q135 tol4 hz137 _ r151 g150 hc152 (d + 1)) k122_112 lk_0_189 zm83_get na83 rfl (Nat.le_of_ble_eq_true rfl) sh4 (by decide) rfl ?_
            obtain ⟨rfl, rfl⟩ := zpr hE
            exact y_iret k122_115 rfl
          · rw [if_neg c149] at hE
            have w39 : x3.toInt < 0 ∨ 2 < x3.toInt := by
              have e0 := lv_neT (a := 0) c138 (by decide)
              have e1 := lv_neT (a := 1) c139 (by decide)
              have e2 := lv_neT (a := 2) c149 (by decide)
              omega
            refine y_tswD (tgt := 116) k122_39 w39 (by decide) ?_
            refine y_bipush (v := (-3)) k122_116 b8_m3 ?_
            obtain ⟨rfl, rfl⟩ := zpr hE
            exact y_iret k122_118 rfl
    · rw [if_neg c153] at hE
      refine y_ifF 28 k122_22 (by decide) c153 ?_
      refine y_bipush (v := (-2)) k122_25 b8_m2 ?_
      obtain ⟨rfl, rfl⟩ := zpr hE
      exact y_iret k122_27 rfl
-- AdjectiveCoupons$Drafts.priceNow
def f125_9 (K : Nat) : Nat → Int32 → zS → Option (Unit × zS)
  | 0, _, _ => none
  | n + 1, x4, g => if (g 186 4) ≤ x4 then some ((), g) else (zbd (f120 K x4 g) fun q141 g140 => zbd (f60 K q141 0 g140) fun r145 g144 => zbd (f14 K 191 x4 r145 g144) fun _ g147 => (f125_9 K n) (x4 + 1) g147)
def f125 (K : Nat) (o1 : Nat) (x3 : Int32) (g : zS) : Option (Unit × zS) := zbd (f59 K o1 x3 g) fun _ g151 => f125_9 K K 0 g151
theorem F125_9 {L : Nat} {xs : Nat → Int32} {d : Nat} (K : Nat) : ∀ (n : Nat) (x4 : Int32) (g : zS) (r : Unit) (g' : zS) (hE : f125_9 K n x4 g = some (r, g')), zG2 L xs (d + 4) zm125 9 [some (.ref 186), none, some (.ref 183), none, some (.int x4)] [] g none g' := by
  intro n
  induction n with
  | zero => intro x4  g r g' hE; cases hE
  | succ n ih =>
    intro x4  g r g' hE
    rw [f125_9] at hE
    refine y_iload k125_9 rfl ?_
    refine y_aload_n k125_11 rfl rfl ?_
    refine y_getI k125_12 fk_8_34 sh186 rfl ?_
    by_cases c150 : (g 186 4) ≤ x4
    · rw [if_pos c150] at hE
      refine y_icT (tgt := 44) k125_15 (by decide) c150 ?_
      obtain ⟨rfl, rfl⟩ := zpr hE
      exact y_vret k125_44 rfl
    · rw [if_neg c150] at hE
      refine y_icF 44 k125_15 (by decide) c150 ?_
      refine y_aload_n k125_18 rfl rfl ?_
      refine y_getR k125_19 fk_8_27 sh186 rfl ?_
      refine y_iload k125_22 rfl ?_
      refine y_aload_n k125_24 rfl rfl ?_
      refine y_aload_n k125_25 rfl rfl ?_
      refine y_iload k125_26 rfl ?_
      obtain ⟨q141, g140, hc142, hE⟩ := zbd_some hE
      have hz143 := P120 hc142
      refine y_invVn (j := 120) (As := [.int x4]) (rest := [.ref 183, .int x4, .ref 191]) (N := zm120) (F120 K x4 _ q141 g140 hc142 (d + 3)) k125_28 lk_8_38 zm120_get na120 rfl (Nat.le_of_ble_eq_true rfl) sh186 (by decide) rfl ?_
      refine y_iconst (v := 0) k125_31 oi_0 ?_
      obtain ⟨r145, g144, hc146, hE⟩ := zbd_some hE
      refine y_invVi (j := 60) (As := [.ref q141, .int 0]) (rest := [.int x4, .ref 191]) (N := zm60) (F60 K q141 0 hz143 _ r145 g144 hc146 (d + 0)) k125_32 lk_8_62 zm60_get na60 rfl (Nat.le_of_ble_eq_true rfl) sh183 (by decide) rfl ?_
      obtain ⟨u148, g147, hc149, hE⟩ := zbd_some hE
      refine y_invVv (j := 14) (As := [.int x4, .int r145]) (rest := []) (N := zm14) (F14 K 191 x4 r145 rw191 _ u148 g147 hc149 (d + 3)) k125_35 lk_8_52 zm14_get na14 rfl (Nat.le_of_ble_eq_true rfl) sh191 (by decide) rfl ?_
      refine y_iinc (v := (x4 + 1)) (ls2 := [some (.ref 186), none, some (.ref 183), none, some (.int (x4 + 1))]) k125_38 rfl rfl (by rw [oi_1]) rfl ?_
      refine y_goto (tgt := 9) k125_41 (by decide) ?_
      exact ih (x4 + 1) _ _ _ hE
theorem F125 {L : Nat} {xs : Nat → Int32} (K : Nat) (o1 : Nat) (x3 : Int32) (h1 : zTold o1) (g : zS) (r : Unit) (g' : zS) (hE : f125 K o1 x3 g = some (r, g')) (d : Nat) : zE2 L xs (d + 5) 125 [.ref 186, .ref o1, .ref 183, .int x3] g none g' := by
  refine y_ev (n := 0) (d := d + 4) (ls := [some (.ref 186), some (.ref o1), some (.ref 183), some (.int x3), none]) zm125_get (by decide) (Nat.le_of_ble_eq_true rfl) rfl ?_
  unfold f125 at hE
  refine y_aload_n k125_0 rfl rfl ?_
  refine y_aload_n k125_1 rfl rfl ?_
  refine y_iload_n k125_2 rfl ?_
  obtain ⟨u152, g151, hc153, hE⟩ := zbd_some hE
  refine y_invVv (j := 59) (As := [.ref o1, .int x3]) (rest := []) (N := zm59) (F59 K o1 x3 h1 _ u152 g151 hc153 (d + 1)) k125_3 lk_8_56 zm59_get na59 rfl (Nat.le_of_ble_eq_true rfl) sh183 (by decide) rfl ?_
  refine y_iconst (v := 0) k125_6 oi_0 ?_
  refine y_istore (ls2 := [some (.ref 186), some (.ref o1), some (.ref 183), some (.int x3), some (.int 0)]) k125_7 rfl (Nat.le_of_ble_eq_true rfl) rfl ?_
  exact y_weak (ls0 := [some (.ref 186), none, some (.ref 183), none, some (.int 0)]) ⟨rfl, rfl, rfl, rfl, rfl, trivial⟩ (F125_9 K K 0 _ _ _ hE)
-- AdjectiveCoupons$Drafts.priceWeekByWeek
def f130_3 (K : Nat) : Nat → Nat → Int32 → Int32 → Int32 → zS → Option (Unit × zS)
  | 0, _, _, _, _, _ => none
  | n + 1, o1, x3, x4, x5, g => if (g 186 4) ≤ x5 then some ((), g) else (zbd (f59 K o1 (x3 + x5) g) fun _ g143 => zbd (f120 K x5 g143) fun q147 g146 => zbd (f60 K q147 x4 g146) fun r151 g150 => zbd (f14 K 191 x5 r151 g150) fun _ g153 => (f130_3 K n) o1 x3 x4 (x5 + 1) g153)
def f130 (K : Nat) (o1 : Nat) (x3 : Int32) (x4 : Int32) (g : zS) : Option (Unit × zS) := f130_3 K K o1 x3 x4 0 g
theorem F130_3 {L : Nat} {xs : Nat → Int32} {d : Nat} (K : Nat) : ∀ (n : Nat) (o1 : Nat) (x3 : Int32) (x4 : Int32) (x5 : Int32) (h1 : zTold o1) (g : zS) (r : Unit) (g' : zS) (hE : f130_3 K n o1 x3 x4 x5 g = some (r, g')), zG2 L xs (d + 4) zm130 3 [some (.ref 186), some (.ref o1), some (.ref 183), some (.int x3), some (.int x4), some (.int x5)] [] g none g' := by
  intro n
  induction n with
  | zero => intro o1 x3 x4 x5 h1 g r g' hE; cases hE
  | succ n ih =>
    intro o1 x3 x4 x5 h1 g r g' hE
    rw [f130_3] at hE
    refine y_iload k130_3 rfl ?_
    refine y_aload_n k130_5 rfl rfl ?_
    refine y_getI k130_6 fk_8_34 sh186 rfl ?_
    by_cases c156 : (g 186 4) ≤ x5
    · rw [if_pos c156] at hE
      refine y_icT (tgt := 48) k130_9 (by decide) c156 ?_
      obtain ⟨rfl, rfl⟩ := zpr hE
      exact y_vret k130_48 rfl
    · rw [if_neg c156] at hE
      refine y_icF 48 k130_9 (by decide) c156 ?_
      refine y_aload_n k130_12 rfl rfl ?_
      refine y_aload_n k130_13 rfl rfl ?_
      refine y_iload_n k130_14 rfl ?_
      refine y_iload k130_15 rfl ?_
      refine y_iadd k130_17 ?_
      obtain ⟨u144, g143, hc145, hE⟩ := zbd_some hE
      refine y_invVv (j := 59) (As := [.ref o1, .int (x3 + x5)]) (rest := []) (N := zm59) (F59 K o1 (x3 + x5) h1 _ u144 g143 hc145 (d + 1)) k130_18 lk_8_56 zm59_get na59 rfl (Nat.le_of_ble_eq_true rfl) sh183 (by decide) rfl ?_
      refine y_aload_n k130_21 rfl rfl ?_
      refine y_getR k130_22 fk_8_27 sh186 rfl ?_
      refine y_iload k130_25 rfl ?_
      refine y_aload_n k130_27 rfl rfl ?_
      refine y_aload_n k130_28 rfl rfl ?_
      refine y_iload k130_29 rfl ?_
      obtain ⟨q147, g146, hc148, hE⟩ := zbd_some hE
      have hz149 := P120 hc148
      refine y_invVn (j := 120) (As := [.int x5]) (rest := [.ref 183, .int x5, .ref 191]) (N := zm120) (F120 K x5 _ q147 g146 hc148 (d + 3)) k130_31 lk_8_38 zm120_get na120 rfl (Nat.le_of_ble_eq_true rfl) sh186 (by decide) rfl ?_
      refine y_iload k130_34 rfl ?_
      obtain ⟨r151, g150, hc152, hE⟩ := zbd_some hE
      refine y_invVi (j := 60) (As := [.ref q147, .int x4]) (rest := [.int x5, .ref 191]) (N := zm60) (F60 K q147 x4 hz149 _ r151 g150 hc152 (d + 0)) k130_36 lk_8_62 zm60_get na60 rfl (Nat.le_of_ble_eq_true rfl) sh183 (by decide) rfl ?_
      obtain ⟨u154, g153, hc155, hE⟩ := zbd_some hE
      refine y_invVv (j := 14) (As := [.int x5, .int r151]) (rest := []) (N := zm14) (F14 K 191 x5 r151 rw191 _ u154 g153 hc155 (d + 3)) k130_39 lk_8_52 zm14_get na14 rfl (Nat.le_of_ble_eq_true rfl) sh191 (by decide) rfl ?_
      refine y_iinc (v := (x5 + 1)) (ls2 := [some (.ref 186), some (.ref o1), some (.ref 183), some (.int x3), some (.int x4), some (.int (x5 + 1))]) k130_42 rfl rfl (by rw [oi_1]) rfl ?_
      refine y_goto (tgt := 3) k130_45 (by decide) ?_
      exact ih o1 x3 x4 (x5 + 1) h1 _ _ _ hE
theorem F130 {L : Nat} {xs : Nat → Int32} (K : Nat) (o1 : Nat) (x3 : Int32) (x4 : Int32) (h1 : zTold o1) (g : zS) (r : Unit) (g' : zS) (hE : f130 K o1 x3 x4 g = some (r, g')) (d : Nat) : zE2 L xs (d + 5) 130 [.ref 186, .ref o1, .ref 183, .int x3, .int x4] g none g' := by
  refine y_ev (n := 0) (d := d + 4) (ls := [some (.ref 186), some (.ref o1), some (.ref 183), some (.int x3), some (.int x4), none]) zm130_get (by decide) (Nat.le_of_ble_eq_true rfl) rfl ?_
  unfold f130 at hE
  refine y_iconst (v := 0) k130_0 oi_0 ?_
  refine y_istore (ls2 := [some (.ref 186), some (.ref o1), some (.ref 183), some (.int x3), some (.int x4), some (.int 0)]) k130_1 rfl (Nat.le_of_ble_eq_true rfl) rfl ?_
  exact F130_3 K K o1 x3 x4 0 h1 _ _ _ hE
-- AdjectiveCoupons.likeness
def f133 (K : Nat) (x1 : Int32) (g : zS) : Option (Int32 × zS) := zbd (f53 K x1 g) fun r109 g108 => if r109 = 0 then some ((-2), g108) else (zbd (f134 K x1 g108) fun r112 g111 => some (r112, g111))
theorem F133 {L : Nat} {xs : Nat → Int32} (K : Nat) (x1 : Int32) (g : zS) (r : Int32) (g' : zS) (hE : f133 K x1 g = some (r, g')) (d : Nat) : zE2 L xs (d + 5) 133 [.ref 0, .int x1] g (some (.int r)) g' := by
  refine y_ev (n := 0) (d := d + 4) (ls := [some (.ref 0), some (.int x1)]) zm133_get (by decide) (Nat.le_of_ble_eq_true rfl) rfl ?_
  unfold f133 at hE
  refine y_aload_n k133_0 rfl rfl ?_
  refine y_iload_n k133_1 rfl ?_
  obtain ⟨r109, g108, hc110, hE⟩ := zbd_some hE
  refine y_invVi (j := 53) (As := [.int x1]) (rest := []) (N := zm53) (F53 K x1 _ r109 g108 hc110 (d + 2)) k133_2 lk_0_134 zm53_get na53 rfl (Nat.le_of_ble_eq_true rfl) sh0 (by decide) rfl ?_
  by_cases c114 : r109 = 0
  · rw [if_pos c114] at hE
    refine y_ifT (tgt := 16) k133_5 (by decide) c114 ?_
    refine y_bipush (v := (-2)) k133_16 b8_m2 ?_
    obtain ⟨rfl, rfl⟩ := zpr hE
    exact y_iret k133_18 rfl
  · rw [if_neg c114] at hE
    refine y_ifF 16 k133_5 (by decide) c114 ?_
    refine y_aload_n k133_8 rfl rfl ?_
    refine y_iload_n k133_9 rfl ?_
    obtain ⟨r112, g111, hc113, hE⟩ := zbd_some hE
    refine y_invVi (j := 134) (As := [.int x1]) (rest := []) (N := zm134) (F134 K x1 _ r112 g111 hc113 (d + 0)) k133_10 lk_0_296 zm134_get na134 rfl (Nat.le_of_ble_eq_true rfl) sh0 (by decide) rfl ?_
    refine y_goto (tgt := 18) k133_13 (by decide) ?_
    obtain ⟨rfl, rfl⟩ := zpr hE
    exact y_iret k133_18 rfl
-- AdjectiveCoupons.author
def f135_54 (K : Nat) (k25 : Int32 → Int32 → Int32 → zS → Option (Int32 × zS)) (x1 : Int32) (x2 : Int32) (x3 : Int32) (g : zS) : Option (Int32 × zS) := k25 x1 x2 (x3 + 1) g
def f135_25 (K : Nat) : Nat → Int32 → Int32 → Int32 → zS → Option (Int32 × zS)
  | 0, _, _, _, _ => none
  | n + 1, x1, x2, x3, g => if (g 4 1) ≤ x3 then some (x1, g) else (zbd (f134 K x3 g) fun r125 g124 => if r125 ≤ x2 then f135_54 K (f135_25 K n) x1 x2 x3 g124 else (f135_54 K (f135_25 K n) x3 r125 x3 g124))
def f135 (K : Nat) (g : zS) : Option (Int32 × zS) := zbd (f77 K 180 g) fun r130 g129 => if ¬ (g 180 1) = r130 then f135_25 K K (-1) (-1) 0 g129 else (some ((-1), g129))
theorem F135_54 {L : Nat} {xs : Nat → Int32} {d : Nat} (K : Nat) (k25 : Int32 → Int32 → Int32 → zS → Option (Int32 × zS)) (hk25 : ∀ (x1 : Int32) (x2 : Int32) (x3 : Int32) (g : zS) (r : Int32) (g' : zS), k25 x1 x2 x3 g = some (r, g') → zG2 L xs (d + 4) zm135 25 [some (.ref 0), some (.int x1), some (.int x2), some (.int x3), none] [] g (some (.int r)) g') (x1 : Int32) (x2 : Int32) (x3 : Int32) (g : zS) (r : Int32) (g' : zS) (hE : f135_54 K k25 x1 x2 x3 g = some (r, g')) : zG2 L xs (d + 4) zm135 54 [some (.ref 0), some (.int x1), some (.int x2), some (.int x3), none] [] g (some (.int r)) g' := by
  unfold f135_54 at hE
  refine y_iinc (v := (x3 + 1)) (ls2 := [some (.ref 0), some (.int x1), some (.int x2), some (.int (x3 + 1)), none]) k135_54 rfl rfl (by rw [oi_1]) rfl ?_
  refine y_goto (tgt := 25) k135_57 (by decide) ?_
  exact hk25 x1 x2 (x3 + 1) _ _ _ hE
theorem F135_25 {L : Nat} {xs : Nat → Int32} {d : Nat} (K : Nat) : ∀ (n : Nat) (x1 : Int32) (x2 : Int32) (x3 : Int32) (g : zS) (r : Int32) (g' : zS) (hE : f135_25 K n x1 x2 x3 g = some (r, g')), zG2 L xs (d + 4) zm135 25 [some (.ref 0), some (.int x1), some (.int x2), some (.int x3), none] [] g (some (.int r)) g' := by
  intro n
  induction n with
  | zero => intro x1 x2 x3  g r g' hE; cases hE
  | succ n ih =>
    intro x1 x2 x3  g r g' hE
    rw [f135_25] at hE
    refine y_iload_n k135_25 rfl ?_
    refine y_aload_n k135_26 rfl rfl ?_
    refine y_getR k135_27 fk_0_19 sh0 rfl ?_
    refine y_getI k135_30 fk_0_88 sh4 rfl ?_
    by_cases c128 : (g 4 1) ≤ x3
    · rw [if_pos c128] at hE
      refine y_icT (tgt := 60) k135_33 (by decide) c128 ?_
      refine y_iload_n k135_60 rfl ?_
      obtain ⟨rfl, rfl⟩ := zpr hE
      exact y_iret k135_61 rfl
    · rw [if_neg c128] at hE
      refine y_icF 60 k135_33 (by decide) c128 ?_
      refine y_aload_n k135_36 rfl rfl ?_
      refine y_iload_n k135_37 rfl ?_
      obtain ⟨r125, g124, hc126, hE⟩ := zbd_some hE
      refine y_invVi (j := 134) (As := [.int x3]) (rest := []) (N := zm134) (F134 K x3 _ r125 g124 hc126 (d + 0)) k135_38 lk_0_296 zm134_get na134 rfl (Nat.le_of_ble_eq_true rfl) sh0 (by decide) rfl ?_
      refine y_istore (ls2 := [some (.ref 0), some (.int x1), some (.int x2), some (.int x3), some (.int r125)]) k135_41 rfl (Nat.le_of_ble_eq_true rfl) rfl ?_
      refine y_iload k135_43 rfl ?_
      refine y_iload_n k135_45 rfl ?_
      by_cases c127 : r125 ≤ x2
      · rw [if_pos c127] at hE
        refine y_icT (tgt := 54) k135_46 (by decide) c127 ?_
        exact y_weak (ls0 := [some (.ref 0), some (.int x1), some (.int x2), some (.int x3), none]) ⟨rfl, rfl, rfl, rfl, rfl, trivial⟩ (F135_54 K (f135_25 K n) ih x1 x2 x3 _ _ _ hE)
      · rw [if_neg c127] at hE
        refine y_icF 54 k135_46 (by decide) c127 ?_
        refine y_iload k135_49 rfl ?_
        refine y_istore_n (ls2 := [some (.ref 0), some (.int x1), some (.int r125), some (.int x3), some (.int r125)]) k135_51 rfl (Nat.le_of_ble_eq_true rfl) rfl ?_
        refine y_iload_n k135_52 rfl ?_
        refine y_istore_n (ls2 := [some (.ref 0), some (.int x3), some (.int r125), some (.int x3), some (.int r125)]) k135_53 rfl (Nat.le_of_ble_eq_true rfl) rfl ?_
        exact y_weak (ls0 := [some (.ref 0), some (.int x3), some (.int r125), some (.int x3), none]) ⟨rfl, rfl, rfl, rfl, rfl, trivial⟩ (F135_54 K (f135_25 K n) ih x3 r125 x3 _ _ _ hE)
theorem F135 {L : Nat} {xs : Nat → Int32} (K : Nat) (g : zS) (r : Int32) (g' : zS) (hE : f135 K  g = some (r, g')) (d : Nat) : zE2 L xs (d + 5) 135 [.ref 0] g (some (.int r)) g' := by
  refine y_ev (n := 0) (d := d + 4) (ls := [some (.ref 0), none, none, none, none]) zm135_get (by decide) (Nat.le_of_ble_eq_true rfl) rfl ?_
  unfold f135 at hE
  refine y_aload_n k135_0 rfl rfl ?_
  refine y_getR k135_1 fk_0_43 sh0 rfl ?_
  refine y_getI k135_4 fk_0_101 sh180 rfl ?_
  refine y_aload_n k135_7 rfl rfl ?_
  refine y_getR k135_8 fk_0_43 sh0 rfl ?_
  obtain ⟨r130, g129, hc131, hE⟩ := zbd_some hE
  refine y_invVi (j := 77) (As := []) (rest := [.int (g 180 1)]) (N := zm77) (F77 K 180 li180 _ r130 g129 hc131 (d + 2)) k135_11 lk_0_246 zm77_get na77 rfl (Nat.le_of_ble_eq_true rfl) sh180 (by decide) rfl ?_
  by_cases c132 : ¬ (g 180 1) = r130
  · rw [if_pos c132] at hE
    refine y_icT (tgt := 19) k135_14 (by decide) c132 ?_
    refine y_iconst (v := (-1)) k135_19 oi_m1 ?_
    refine y_istore_n (ls2 := [some (.ref 0), some (.int (-1)), none, none, none]) k135_20 rfl (Nat.le_of_ble_eq_true rfl) rfl ?_
    refine y_iconst (v := (-1)) k135_21 oi_m1 ?_
    refine y_istore_n (ls2 := [some (.ref 0), some (.int (-1)), some (.int (-1)), none, none]) k135_22 rfl (Nat.le_of_ble_eq_true rfl) rfl ?_
    refine y_iconst (v := 0) k135_23 oi_0 ?_
    refine y_istore_n (ls2 := [some (.ref 0), some (.int (-1)), some (.int (-1)), some (.int 0), none]) k135_24 rfl (Nat.le_of_ble_eq_true rfl) rfl ?_
    exact F135_25 K K (-1) (-1) 0 _ _ _ hE
  · rw [if_neg c132] at hE
    refine y_icF 19 k135_14 (by decide) c132 ?_
    refine y_iconst (v := (-1)) k135_17 oi_m1 ?_
    obtain ⟨rfl, rfl⟩ := zpr hE
    exact y_iret k135_18 rfl
-- AdjectiveCoupons.payments
def f140 (K : Nat) (g : zS) : Option (Int32 × zS) := zbd (f141 K 34 (g 4 1) g) fun r105 g104 => some (r105, g104)
theorem F140 {L : Nat} {xs : Nat → Int32} (K : Nat) (g : zS) (r : Int32) (g' : zS) (hE : f140 K  g = some (r, g')) (d : Nat) : zE2 L xs (d + 5) 140 [.ref 0] g (some (.int r)) g' := by
  refine y_ev (n := 0) (d := d + 4) (ls := [some (.ref 0)]) zm140_get (by decide) (Nat.le_of_ble_eq_true rfl) rfl ?_
  unfold f140 at hE
  refine y_aload_n k140_0 rfl rfl ?_
  refine y_getR k140_1 fk_0_64 sh0 rfl ?_
  refine y_aload_n k140_4 rfl rfl ?_
  refine y_getR k140_5 fk_0_29 sh0 rfl ?_
  refine y_aload_n k140_8 rfl rfl ?_
  refine y_getR k140_9 fk_0_19 sh0 rfl ?_
  refine y_getI k140_12 fk_0_88 sh4 rfl ?_
  obtain ⟨r105, g104, hc106, hE⟩ := zbd_some hE
  refine y_invVi (j := 141) (As := [.ref 34, .int (g 4 1)]) (rest := []) (N := zm141) (F141 K 34 (g 4 1) stt34 _ r105 g104 hc106 (d + 0)) k140_15 lk_0_305 zm141_get na141 rfl (Nat.le_of_ble_eq_true rfl) sh213 (by decide) rfl ?_
  obtain ⟨rfl, rfl⟩ := zpr hE
  exact y_iret k140_18 rfl
-- AdjectiveCoupons$Text.clauseHere
def f24_105 (K : Nat) (k16 : Int32 → Int32 → Int32 → Int32 → zS → Option (Int32 × zS)) (x2 : Int32) (x3 : Int32) (x4 : Int32) (x5 : Int32) (g : zS) : Option (Int32 × zS) := k16 x2 x3 x4 (x5 + 1) g
def f24_94 (K : Nat) (k16 : Int32 → Int32 → Int32 → Int32 → zS → Option (Int32 × zS)) (x2 : Int32) (x5 : Int32) (g : zS) : Option (Int32 × zS) := f24_105 K k16 (x2 + 1) (g 1 3) 1 x5 g
def f24_71 (K : Nat) (k16 : Int32 → Int32 → Int32 → Int32 → zS → Option (Int32 × zS)) (x2 : Int32) (x3 : Int32) (x5 : Int32) (xs0 : Int32) (g : zS) : Option (Int32 × zS) := f24_105 K k16 x2 (x3 + 1) xs0 x5 g
def f24_70 (K : Nat) (k16 : Int32 → Int32 → Int32 → Int32 → zS → Option (Int32 × zS)) (x2 : Int32) (x3 : Int32) (x5 : Int32) (g : zS) : Option (Int32 × zS) := f24_71 K k16 x2 x3 x5 0 g
def f24_16 (K : Nat) : Nat → Int32 → Int32 → Int32 → Int32 → zS → Option (Int32 × zS)
  | 0, _, _, _, _, _ => none
  | n + 1, x2, x3, x4, x5, g => if 97 ≤ x5 then some ((-1), g) else if zin x5 97 then if (zbyt x5.toNatClampNeg) = 32 then if x4 = 0 then f24_94 K (f24_16 K n) x2 x5 g else if ¬ x3 = (g 1 4) then f24_94 K (f24_16 K n) x2 x5 g else (some (x2, g)) else if x4 = 0 then f24_70 K (f24_16 K n) x2 x3 x5 g else if (g 1 4) ≤ x3 then f24_70 K (f24_16 K n) x2 x3 x5 g else (zbd (f21 K 2 x3 g) fun r144 g143 => if ¬ r144 = (zbyt x5.toNatClampNeg) then f24_70 K (f24_16 K n) x2 x3 x5 g143 else (f24_71 K (f24_16 K n) x2 x3 x5 1 g143)) else none
def f24 (K : Nat) (g : zS) : Option (Int32 × zS) := f24_16 K K 0 (g 1 3) 1 0 g
theorem F24_105 {L : Nat} {xs : Nat → Int32} {d : Nat} (K : Nat) (k16 : Int32 → Int32 → Int32 → Int32 → zS → Option (Int32 × zS)) (hk16 : ∀ (x2 : Int32) (x3 : Int32) (x4 : Int32) (x5 : Int32) (g : zS) (r : Int32) (g' : zS), k16 x2 x3 x4 x5 g = some (r, g') → zG2 L xs (d + 5) zm24 16 [some (.ref 1), some (.ref zSTR), some (.int x2), some (.int x3), some (.int x4), some (.int x5), none] [] g (some (.int r)) g') (x2 : Int32) (x3 : Int32) (x4 : Int32) (x5 : Int32) (g : zS) (r : Int32) (g' : zS) (hE : f24_105 K k16 x2 x3 x4 x5 g = some (r, g')) : zG2 L xs (d + 5) zm24 105 [some (.ref 1), some (.ref zSTR), some (.int x2), some (.int x3), some (.int x4), some (.int x5), none] [] g (some (.int r)) g' := by
  unfold f24_105 at hE
  refine y_iinc (v := (x5 + 1)) (ls2 := [some (.ref 1), some (.ref zSTR), some (.int x2), some (.int x3), some (.int x4), some (.int (x5 + 1)), none]) k24_105 rfl rfl (by rw [oi_1]) rfl ?_
  refine y_goto (tgt := 16) k24_108 (by decide) ?_
  exact hk16 x2 x3 x4 (x5 + 1) _ _ _ hE
theorem F24_94 {L : Nat} {xs : Nat → Int32} {d : Nat} (K : Nat) (k16 : Int32 → Int32 → Int32 → Int32 → zS → Option (Int32 × zS)) (hk16 : ∀ (x2 : Int32) (x3 : Int32) (x4 : Int32) (x5 : Int32) (g : zS) (r : Int32) (g' : zS), k16 x2 x3 x4 x5 g = some (r, g') → zG2 L xs (d + 5) zm24 16 [some (.ref 1), some (.ref zSTR), some (.int x2), some (.int x3), some (.int x4), some (.int x5), none] [] g (some (.int r)) g') (x2 : Int32) (x5 : Int32) (g : zS) (r : Int32) (g' : zS) (hE : f24_94 K k16 x2 x5 g = some (r, g')) : zG2 L xs (d + 5) zm24 94 [some (.ref 1), some (.ref zSTR), some (.int x2), none, none, some (.int x5), none] [] g (some (.int r)) g' := by
  unfold f24_94 at hE
  refine y_iinc (v := (x2 + 1)) (ls2 := [some (.ref 1), some (.ref zSTR), some (.int (x2 + 1)), none, none, some (.int x5), none]) k24_94 rfl rfl (by rw [oi_1]) rfl ?_
  refine y_aload_n k24_97 rfl rfl ?_
  refine y_getI k24_98 fk_1_41 sh1 rfl ?_
  refine y_istore_n (ls2 := [some (.ref 1), some (.ref zSTR), some (.int (x2 + 1)), some (.int (g 1 3)), none, some (.int x5), none]) k24_101 rfl (Nat.le_of_ble_eq_true rfl) rfl ?_
  refine y_iconst (v := 1) k24_102 oi_1 ?_
  refine y_istore (ls2 := [some (.ref 1), some (.ref zSTR), some (.int (x2 + 1)), some (.int (g 1 3)), some (.int 1), some (.int x5), none]) k24_103 rfl (Nat.le_of_ble_eq_true rfl) rfl ?_
  exact F24_105 K k16 hk16 (x2 + 1) (g 1 3) 1 x5 _ _ _ hE
theorem F24_71 {L : Nat} {xs : Nat → Int32} {d : Nat} (K : Nat) (k16 : Int32 → Int32 → Int32 → Int32 → zS → Option (Int32 × zS)) (hk16 : ∀ (x2 : Int32) (x3 : Int32) (x4 : Int32) (x5 : Int32) (g : zS) (r : Int32) (g' : zS), k16 x2 x3 x4 x5 g = some (r, g') → zG2 L xs (d + 5) zm24 16 [some (.ref 1), some (.ref zSTR), some (.int x2), some (.int x3), some (.int x4), some (.int x5), none] [] g (some (.int r)) g') (x2 : Int32) (x3 : Int32) (x5 : Int32) (xs0 : Int32) (g : zS) (r : Int32) (g' : zS) (hE : f24_71 K k16 x2 x3 x5 xs0 g = some (r, g')) : zG2 L xs (d + 5) zm24 71 [some (.ref 1), some (.ref zSTR), some (.int x2), some (.int x3), none, some (.int x5), none] [.int xs0] g (some (.int r)) g' := by
  unfold f24_71 at hE
  refine y_istore (ls2 := [some (.ref 1), some (.ref zSTR), some (.int x2), some (.int x3), some (.int xs0), some (.int x5), none]) k24_71 rfl (Nat.le_of_ble_eq_true rfl) rfl ?_
  refine y_iinc (v := (x3 + 1)) (ls2 := [some (.ref 1), some (.ref zSTR), some (.int x2), some (.int (x3 + 1)), some (.int xs0), some (.int x5), none]) k24_73 rfl rfl (by rw [oi_1]) rfl ?_
  refine y_goto (tgt := 105) k24_76 (by decide) ?_
  exact F24_105 K k16 hk16 x2 (x3 + 1) xs0 x5 _ _ _ hE
theorem F24_70 {L : Nat} {xs : Nat → Int32} {d : Nat} (K : Nat) (k16 : Int32 → Int32 → Int32 → Int32 → zS → Option (Int32 × zS)) (hk16 : ∀ (x2 : Int32) (x3 : Int32) (x4 : Int32) (x5 : Int32) (g : zS) (r : Int32) (g' : zS), k16 x2 x3 x4 x5 g = some (r, g') → zG2 L xs (d + 5) zm24 16 [some (.ref 1), some (.ref zSTR), some (.int x2), some (.int x3), some (.int x4), some (.int x5), none] [] g (some (.int r)) g') (x2 : Int32) (x3 : Int32) (x5 : Int32) (g : zS) (r : Int32) (g' : zS) (hE : f24_70 K k16 x2 x3 x5 g = some (r, g')) : zG2 L xs (d + 5) zm24 70 [some (.ref 1), some (.ref zSTR), some (.int x2), some (.int x3), none, some (.int x5), none] [] g (some (.int r)) g' := by
  unfold f24_70 at hE
  refine y_iconst (v := 0) k24_70 oi_0 ?_
  exact F24_71 K k16 hk16 x2 x3 x5 0 _ _ _ hE
theorem F24_16 {L : Nat} {xs : Nat → Int32} {d : Nat} (K : Nat) : ∀ (n : Nat) (x2 : Int32) (x3 : Int32) (x4 : Int32) (x5 : Int32) (g : zS) (r : Int32) (g' : zS) (hE : f24_16 K n x2 x3 x4 x5 g = some (r, g')), zG2 L xs (d + 5) zm24 16 [some (.ref 1), some (.ref zSTR), some (.int x2), some (.int x3), some (.int x4), some (.int x5), none] [] g (some (.int r)) g' := by
  intro n
  induction n with
  | zero => intro x2 x3 x4 x5  g r g' hE; cases hE
  | succ n ih =>
    intro x2 x3 x4 x5  g r g' hE
    rw [f24_16] at hE
    refine y_iload k24_16 rfl ?_
    refine y_aload_n k24_18 rfl rfl ?_
    refine y_invTi (As := []) (x := 97) (zstrlen _) k24_19 lk_1_83 rfl rfl rfl (Nat.le_of_ble_eq_true rfl) rfl ?_
    by_cases c150 : 97 ≤ x5
    · rw [if_pos c150] at hE
      refine y_icT (tgt := 111) k24_22 (by decide) c150 ?_
      refine y_iconst (v := (-1)) k24_111 oi_m1 ?_
      obtain ⟨rfl, rfl⟩ := zpr hE
      exact y_iret k24_112 rfl
    · rw [if_neg c150] at hE
      refine y_icF 111 k24_22 (by decide) c150 ?_
      refine y_aload_n k24_25 rfl rfl ?_
      refine y_iload k24_26 rfl ?_
      obtain ⟨hc, hE⟩ := zif_some hE
      refine y_invTi (As := [.int x5]) (x := zbyt x5.toNatClampNeg) (zstrch _ hc) k24_28 lk_1_87 rfl rfl rfl (Nat.le_of_ble_eq_true rfl) rfl ?_
      refine y_istore (ls2 := [some (.ref 1), some (.ref zSTR), some (.int x2), some (.int x3), some (.int x4), some (.int x5), some (.int (zbyt x5.toNatClampNeg))]) k24_31 rfl (Nat.le_of_ble_eq_true rfl) rfl ?_
      refine y_iload k24_33 rfl ?_
      refine y_bipush (v := 32) k24_35 b8_32 ?_
      by_cases c149 : (zbyt x5.toNatClampNeg) = 32
      · rw [if_pos c149] at hE
        refine y_icT (tgt := 79) k24_37 (by decide) c149 ?_
        refine y_iload k24_79 rfl ?_
        by_cases c142 : x4 = 0
        · rw [if_pos c142] at hE
          refine y_ifT (tgt := 94) k24_81 (by decide) c142 ?_
          exact y_weak (ls0 := [some (.ref 1), some (.ref zSTR), some (.int x2), none, none, some (.int x5), none]) ⟨rfl, rfl, rfl, rfl, rfl, rfl, rfl, trivial⟩ (F24_94 K (f24_16 K n) ih x2 x5 _ _ _ hE)
        · rw [if_neg c142] at hE
          refine y_ifF 94 k24_81 (by decide) c142 ?_
          refine y_iload_n k24_84 rfl ?_
          refine y_aload_n k24_85 rfl rfl ?_
          refine y_getI k24_86 fk_1_28 sh1 rfl ?_
          by_cases c141 : ¬ x3 = (g 1 4)
          · rw [if_pos c141] at hE
            refine y_icT (tgt := 94) k24_89 (by decide) c141 ?_
            exact y_weak (ls0 := [some (.ref 1), some (.ref zSTR), some (.int x2), none, none, some (.int x5), none]) ⟨rfl, rfl, rfl, rfl, rfl, rfl, rfl, trivial⟩ (F24_94 K (f24_16 K n) ih x2 x5 _ _ _ hE)
          · rw [if_neg c141] at hE
            refine y_icF 94 k24_89 (by decide) c141 ?_
            refine y_iload_n k24_92 rfl ?_
            obtain ⟨rfl, rfl⟩ := zpr hE
            exact y_iret k24_93 rfl
      · rw [if_neg c149] at hE
        refine y_icF 79 k24_37 (by decide) c149 ?_
        refine y_iload k24_40 rfl ?_
        by_cases c148 : x4 = 0
        · rw [if_pos c148] at hE
          refine y_ifT (tgt := 70) k24_42 (by decide) c148 ?_
          exact y_weak (ls0 := [some (.ref 1), some (.ref zSTR), some (.int x2), some (.int x3), none, some (.int x5), none]) ⟨rfl, rfl, rfl, rfl, rfl, rfl, rfl, trivial⟩ (F24_70 K (f24_16 K n) ih x2 x3 x5 _ _ _ hE)
        · rw [if_neg c148] at hE
          refine y_ifF 70 k24_42 (by decide) c148 ?_
          refine y_iload_n k24_45 rfl ?_
          refine y_aload_n k24_46 rfl rfl ?_
          refine y_getI k24_47 fk_1_28 sh1 rfl ?_
          by_cases c147 : (g 1 4) ≤ x3
          · rw [if_pos c147] at hE
            refine y_icT (tgt := 70) k24_50 (by decide) c147 ?_
            exact y_weak (ls0 := [some (.ref 1), some (.ref zSTR), some (.int x2), some (.int x3), none, some (.int x5), none]) ⟨rfl, rfl, rfl, rfl, rfl, rfl, rfl, trivial⟩ (F24_70 K (f24_16 K n) ih x2 x3 x5 _ _ _ hE)
          · rw [if_neg c147] at hE
            refine y_icF 70 k24_50 (by decide) c147 ?_
            refine y_aload_n k24_53 rfl rfl ?_
            refine y_getR k24_54 fk_1_14 sh1 rfl ?_
            refine y_iload_n k24_57 rfl ?_
            obtain ⟨r144, g143, hc145, hE⟩ := zbd_some hE
            refine y_invVi (j := 21) (As := [.int x3]) (rest := []) (N := zm21) (F21 K 2 x3 rw2 _ r144 g143 hc145 (d + 4)) k24_58 lk_1_44 zm21_get na21 rfl (Nat.le_of_ble_eq_true rfl) sh2 (by decide) rfl ?_
            refine y_iload k24_61 rfl ?_
            by_cases c146 : ¬ r144 = (zbyt x5.toNatClampNeg)
            · rw [if_pos c146] at hE
              refine y_icT (tgt := 70) k24_63 (by decide) c146 ?_
              exact y_weak (ls0 := [some (.ref 1), some (.ref zSTR), some (.int x2), some (.int x3), none, some (.int x5), none]) ⟨rfl, rfl, rfl, rfl, rfl, rfl, rfl, trivial⟩ (F24_70 K (f24_16 K n) ih x2 x3 x5 _ _ _ hE)
            · rw [if_neg c146] at hE
              refine y_icF 70 k24_63 (by decide) c146 ?_
              refine y_iconst (v := 1) k24_66 oi_1 ?_
              refine y_goto (tgt := 71) k24_67 (by decide) ?_
              exact y_weak (ls0 := [some (.ref 1), some (.ref zSTR), some (.int x2), some (.int x3), none, some (.int x5), none]) ⟨rfl, rfl, rfl, rfl, rfl, rfl, rfl, trivial⟩ (F24_71 K (f24_16 K n) ih x2 x3 x5 1 _ _ _ hE)
theorem F24 {L : Nat} {xs : Nat → Int32} (K : Nat) (g : zS) (r : Int32) (g' : zS) (hE : f24 K  g = some (r, g')) (d : Nat) : zE2 L xs (d + 6) 24 [.ref 1] g (some (.int r)) g' := by
  refine y_ev (n := 0) (d := d + 5) (ls := [some (.ref 1), none, none, none, none, none, none]) zm24_get (by decide) (Nat.le_of_ble_eq_true rfl) rfl ?_
  unfold f24 at hE
  refine y_ldcs k24_0 rfl rfl ?_
  refine y_astore_n (ls2 := [some (.ref 1), some (.ref zSTR), none, none, none, none, none]) k24_2 rfl rfl (Nat.le_of_ble_eq_true rfl) rfl ?_
  refine y_iconst (v := 0) k24_3 oi_0 ?_
  refine y_istore_n (ls2 := [some (.ref 1), some (.ref zSTR), some (.int 0), none, none, none, none]) k24_4 rfl (Nat.le_of_ble_eq_true rfl) rfl ?_
  refine y_aload_n k24_5 rfl rfl ?_
  refine y_getI k24_6 fk_1_41 sh1 rfl ?_
  refine y_istore_n (ls2 := [some (.ref 1), some (.ref zSTR), some (.int 0), some (.int (g 1 3)), none, none, none]) k24_9 rfl (Nat.le_of_ble_eq_true rfl) rfl ?_
  refine y_iconst (v := 1) k24_10 oi_1 ?_
  refine y_istore (ls2 := [some (.ref 1), some (.ref zSTR), some (.int 0), some (.int (g 1 3)), some (.int 1), none, none]) k24_11 rfl (Nat.le_of_ble_eq_true rfl) rfl ?_
  refine y_iconst (v := 0) k24_13 oi_0 ?_
  refine y_istore (ls2 := [some (.ref 1), some (.ref zSTR), some (.int 0), some (.int (g 1 3)), some (.int 1), some (.int 0), none]) k24_14 rfl (Nat.le_of_ble_eq_true rfl) rfl ?_
  exact F24_16 K K 0 (g 1 3) 1 0 _ _ _ hE
-- AdjectiveCoupons.as
def f56 (K : Nat) (x1 : Int32) (x2 : Int32) (g : zS) : Option (Int32 × zS) := zbd (f53 K x1 g) fun r120 g119 => if ¬ r120 = 0 then zbd (f12 K x2 0 4 g119) fun r123 g122 => if ¬ r123 = 0 then zbd (f54 K 4 x1 g122) fun r126 g125 => zbd (f57 K r126 x2 g125) fun r129 g128 => if r129 = 0 then some ((-4), g128) else (zbd (f58 K x1 (g128 34 0) g128) fun r132 g131 => some (r132, g131)) else (some ((-3), g122)) else (some ((-2), g119))
theorem F56 {L : Nat} {xs : Nat → Int32} (K : Nat) (x1 : Int32) (x2 : Int32) (g : zS) (r : Int32) (g' : zS) (hE : f56 K x1 x2 g = some (r, g')) (d : Nat) : zE2 L xs (d + 6) 56 [.ref 0, .int x1, .int x2] g (some (.int r)) g' := by
  refine y_ev (n := 0) (d := d + 5) (ls := [some (.ref 0), some (.int x1), some (.int x2)]) zm56_get (by decide) (Nat.le_of_ble_eq_true rfl) rfl ?_
  unfold f56 at hE
  refine y_aload_n k56_0 rfl rfl ?_
  refine y_iload_n k56_1 rfl ?_
  obtain ⟨r120, g119, hc121, hE⟩ := zbd_some hE
  refine y_invVi (j := 53) (As := [.int x1]) (rest := []) (N := zm53) (F53 K x1 _ r120 g119 hc121 (d + 3)) k56_2 lk_0_134 zm53_get na53 rfl (Nat.le_of_ble_eq_true rfl) sh0 (by decide) rfl ?_
  by_cases c136 : ¬ r120 = 0
  · rw [if_pos c136] at hE
    refine y_ifT (tgt := 11) k56_5 (by decide) c136 ?_
    refine y_iload_n k56_11 rfl ?_
    refine y_iconst (v := 0) k56_12 oi_0 ?_
    refine y_iconst (v := 4) k56_13 oi_4 ?_
    obtain ⟨r123, g122, hc124, hE⟩ := zbd_some hE
    refine y_invSi (j := 12) (As := [.int x2, .int 0, .int 4]) (rest := []) (N := zm12) (F12 K x2 0 4 _ r123 g122 hc124 (d + 4)) k56_14 lk_0_68 zm12_get na12 rfl (Nat.le_of_ble_eq_true rfl) ?_
    by_cases c135 : ¬ r123 = 0
    · rw [if_pos c135] at hE
      refine y_ifT (tgt := 23) k56_17 (by decide) c135 ?_
      refine y_aload_n k56_23 rfl rfl ?_
      refine y_getR k56_24 fk_0_19 sh0 rfl ?_
      refine y_iload_n k56_27 rfl ?_
      obtain ⟨r126, g125, hc127, hE⟩ := zbd_some hE
      refine y_invVi (j := 54) (As := [.int x1]) (rest := []) (N := zm54) (F54 K 4 x1 tol4 _ r126 g125 hc127 (d + 3)) k56_28 lk_0_137 zm54_get na54 rfl (Nat.le_of_ble_eq_true rfl) sh4 (by decide) rfl ?_
      refine y_iload_n k56_31 rfl ?_
      obtain ⟨r129, g128, hc130, hE⟩ := zbd_some hE
      refine y_invSi (j := 57) (As := [.int r126, .int x2]) (rest := []) (N := zm57) (F57 K r126 x2 _ r129 g128 hc130 (d + 4)) k56_32 lk_0_156 zm57_get na57 rfl (Nat.le_of_ble_eq_true rfl) ?_
      by_cases c134 : r129 = 0
      · rw [if_pos c134] at hE
        refine y_ifT (tgt := 53) k56_35 (by decide) c134 ?_
        refine y_bipush (v := (-4)) k56_53 b8_m4 ?_
        obtain ⟨rfl, rfl⟩ := zpr hE
        exact y_iret k56_55 rfl
      · rw [if_neg c134] at hE
        refine y_ifF 53 k56_35 (by decide) c134 ?_
        refine y_aload_n k56_38 rfl rfl ?_
        refine y_iload_n k56_39 rfl ?_
        refine y_aload_n k56_40 rfl rfl ?_
        refine y_getR k56_41 fk_0_29 sh0 rfl ?_
        refine y_getI k56_44 fk_0_111 sh34 rfl ?_
        obtain ⟨r132, g131, hc133, hE⟩ := zbd_some hE
        refine y_invVi (j := 58) (As := [.int x1, .int (g128 34 0)]) (rest := []) (N := zm58) (F58 K x1 (g128 34 0) _ r132 g131 hc133 (d + 0)) k56_47 lk_0_160 zm58_get na58 rfl (Nat.le_of_ble_eq_true rfl) sh0 (by decide) rfl ?_
        refine y_goto (tgt := 55) k56_50 (by decide) ?_
        obtain ⟨rfl, rfl⟩ := zpr hE
        exact y_iret k56_55 rfl
    · rw [if_neg c135] at hE
      refine y_ifF 23 k56_17 (by decide) c135 ?_
      refine y_bipush (v := (-3)) k56_20 b8_m3 ?_
      obtain ⟨rfl, rfl⟩ := zpr hE
      exact y_iret k56_22 rfl
  · rw [if_neg c136] at hE
    refine y_ifF 11 k56_5 (by decide) c136 ?_
    refine y_bipush (v := (-2)) k56_8 b8_m2 ?_
    obtain ⟨rfl, rfl⟩ := zpr hE
    exact y_iret k56_10 rfl
-- AdjectiveCoupons.cost
def f72 (K : Nat) (x1 : Int32) (x2 : Int32) (g : zS) : Option (Int32 × zS) := zbd (f53 K x1 g) fun r113 g112 => if ¬ r113 = 0 then zbd (f12 K x2 0 999 g112) fun r116 g115 => if r116 = 0 then some ((-3), g115) else (zbd (f58 K x1 x2 g115) fun r119 g118 => some (r119, g118)) else (some ((-2), g112))
theorem F72 {L : Nat} {xs : Nat → Int32} (K : Nat) (x1 : Int32) (x2 : Int32) (g : zS) (r : Int32) (g' : zS) (hE : f72 K x1 x2 g = some (r, g')) (d : Nat) : zE2 L xs (d + 6) 72 [.ref 0, .int x1, .int x2] g (some (.int r)) g' := by
  refine y_ev (n := 0) (d := d + 5) (ls := [some (.ref 0), some (.int x1), some (.int x2)]) zm72_get (by decide) (Nat.le_of_ble_eq_true rfl) rfl ?_
  unfold f72 at hE
  refine y_aload_n k72_0 rfl rfl ?_
  refine y_iload_n k72_1 rfl ?_
  obtain ⟨r113, g112, hc114, hE⟩ := zbd_some hE
  refine y_invVi (j := 53) (As := [.int x1]) (rest := []) (N := zm53) (F53 K x1 _ r113 g112 hc114 (d + 3)) k72_2 lk_0_134 zm53_get na53 rfl (Nat.le_of_ble_eq_true rfl) sh0 (by decide) rfl ?_
  by_cases c122 : ¬ r113 = 0
  · rw [if_pos c122] at hE
    refine y_ifT (tgt := 11) k72_5 (by decide) c122 ?_
    refine y_iload_n k72_11 rfl ?_
    refine y_iconst (v := 0) k72_12 oi_0 ?_
    refine y_sipush (v := 999) k72_13 s16_999 ?_
    obtain ⟨r116, g115, hc117, hE⟩ := zbd_some hE
    refine y_invSi (j := 12) (As := [.int x2, .int 0, .int 999]) (rest := []) (N := zm12) (F12 K x2 0 999 _ r116 g115 hc117 (d + 4)) k72_16 lk_0_68 zm12_get na12 rfl (Nat.le_of_ble_eq_true rfl) ?_
    by_cases c121 : r116 = 0
    · rw [if_pos c121] at hE
      refine y_ifT (tgt := 31) k72_19 (by decide) c121 ?_
      refine y_bipush (v := (-3)) k72_31 b8_m3 ?_
      obtain ⟨rfl, rfl⟩ := zpr hE
      exact y_iret k72_33 rfl
    · rw [if_neg c121] at hE
      refine y_ifF 31 k72_19 (by decide) c121 ?_
      refine y_aload_n k72_22 rfl rfl ?_
      refine y_iload_n k72_23 rfl ?_
      refine y_iload_n k72_24 rfl ?_
      obtain ⟨r119, g118, hc120, hE⟩ := zbd_some hE
      refine y_invVi (j := 58) (As := [.int x1, .int x2]) (rest := []) (N := zm58) (F58 K x1 x2 _ r119 g118 hc120 (d + 0)) k72_25 lk_0_160 zm58_get na58 rfl (Nat.le_of_ble_eq_true rfl) sh0 (by decide) rfl ?_
      refine y_goto (tgt := 33) k72_28 (by decide) ?_
      obtain ⟨rfl, rfl⟩ := zpr hE
      exact y_iret k72_33 rfl
  · rw [if_neg c122] at hE
    refine y_ifF 11 k72_5 (by decide) c122 ?_
    refine y_bipush (v := (-2)) k72_8 b8_m2 ?_
    obtain ⟨rfl, rfl⟩ := zpr hE
    exact y_iret k72_10 rfl
-- AdjectiveCoupons.say
def f75 (K : Nat) (x1 : Int32) (g : zS) : Option (Int32 × zS) := zbd (f53 K x1 g) fun r138 g137 => if ¬ r138 = 0 then zbd (f76 K 180 g137) fun r141 g140 => if ¬ r141 = 0 then zbd (f78 K 34 g140) fun _ g143 => zbd (f58 K x1 (g143 34 0) g143) fun r147 g146 => zbd (f21 K 35 x1 g146) fun r150 g149 => if r147 ≤ r150 then zbd (f82 K 35 x1 (-r147) g149) fun _ g152 => zbd (f83 K 4 180 g152) fun r156 g155 => zbd (f82 K 41 x1 r156 g155) fun _ g158 => zbd (f84 K 34 x1 180 g158) fun _ g161 => some (1, g161) else (zbd (f82 K 39 x1 1 g149) fun _ g164 => zbd (f14 K 35 x1 0 g164) fun _ g167 => some (0, g167)) else (some ((-4), g140)) else (some ((-2), g137))
theorem F75 {L : Nat} {xs : Nat → Int32} (K : Nat) (x1 : Int32) (g : zS) (r : Int32) (g' : zS) (hE : f75 K x1 g = some (r, g')) (d : Nat) : zE2 L xs (d + 6) 75 [.ref 0, .int x1] g (some (.int r)) g' := by
  refine y_ev (n := 0) (d := d + 5) (ls := [some (.ref 0), some (.int x1), none]) zm75_get (by decide) (Nat.le_of_ble_eq_true rfl) rfl ?_
  unfold f75 at hE
  refine y_aload_n k75_0 rfl rfl ?_
  refine y_iload_n k75_1 rfl ?_
  obtain ⟨r138, g137, hc139, hE⟩ := zbd_some hE
  refine y_invVi (j := 53) (As := [.int x1]) (rest := []) (N := zm53) (F53 K x1 _ r138 g137 hc139 (d + 3)) k75_2 lk_0_134 zm53_get na53 rfl (Nat.le_of_ble_eq_true rfl) sh0 (by decide) rfl ?_
  by_cases c172 : ¬ r138 = 0
  · rw [if_pos c172] at hE
    refine y_ifT (tgt := 11) k75_5 (by decide) c172 ?_
    refine y_aload_n k75_11 rfl rfl ?_
    refine y_getR k75_12 fk_0_43 sh0 rfl ?_
    obtain ⟨r141, g140, hc142, hE⟩ := zbd_some hE
    refine y_invVi (j := 76) (As := []) (rest := []) (N := zm76) (F76 K 180 li180 _ r141 g140 hc142 (d + 2)) k75_15 lk_0_175 zm76_get na76 rfl (Nat.le_of_ble_eq_true rfl) sh180 (by decide) rfl ?_
    by_cases c171 : ¬ r141 = 0
    · rw [if_pos c171] at hE
      refine y_ifT (tgt := 24) k75_18 (by decide) c171 ?_
      refine y_aload_n k75_24 rfl rfl ?_
      refine y_getR k75_25 fk_0_36 sh0 rfl ?_
      refine y_aload_n k75_28 rfl rfl ?_
      refine y_getR k75_29 fk_0_29 sh0 rfl ?_
      obtain ⟨u144, g143, hc145, hE⟩ := zbd_some hE
      refine y_invVv (j := 78) (As := [.ref 34]) (rest := []) (N := zm78) (F78 K 34 stt34 _ u144 g143 hc145 (d + 2)) k75_32 lk_0_179 zm78_get na78 rfl (Nat.le_of_ble_eq_true rfl) sh47 (by decide) rfl ?_
      refine y_aload_n k75_35 rfl rfl ?_
      refine y_iload_n k75_36 rfl ?_
      refine y_aload_n k75_37 rfl rfl ?_
      refine y_getR k75_38 fk_0_29 sh0 rfl ?_
      refine y_getI k75_41 fk_0_111 sh34 rfl ?_
      obtain ⟨r147, g146, hc148, hE⟩ := zbd_some hE
      refine y_invVi (j := 58) (As := [.int x1, .int (g143 34 0)]) (rest := []) (N := zm58) (F58 K x1 (g143 34 0) _ r147 g146 hc148 (d + 0)) k75_44 lk_0_160 zm58_get na58 rfl (Nat.le_of_ble_eq_true rfl) sh0 (by decide) rfl ?_
      refine y_istore_n (ls2 := [some (.ref 0), some (.int x1), some (.int r147)]) k75_47 rfl (Nat.le_of_ble_eq_true rfl) rfl ?_
      refine y_aload_n k75_48 rfl rfl ?_
      refine y_getR k75_49 fk_0_29 sh0 rfl ?_
      refine y_getR k75_52 fk_0_140 sh34 rfl ?_
      refine y_iload_n k75_55 rfl ?_
      obtain ⟨r150, g149, hc151, hE⟩ := zbd_some hE
      refine y_invVi (j := 21) (As := [.int x1]) (rest := []) (N := zm21) (F21 K 35 x1 rw35 _ r150 g149 hc151 (d + 4)) k75_56 lk_0_122 zm21_get na21 rfl (Nat.le_of_ble_eq_true rfl) sh35 (by decide) rfl ?_
      refine y_iload_n k75_59 rfl ?_
      by_cases c170 : r147 ≤ r150
      · rw [if_pos c170] at hE
        refine y_icT (tgt := 89) k75_60 (by decide) c170 ?_
        refine y_aload_n k75_89 rfl rfl ?_
        refine y_getR k75_90 fk_0_29 sh0 rfl ?_
        refine y_getR k75_93 fk_0_140 sh34 rfl ?_
        refine y_iload_n k75_96 rfl ?_
        refine y_iload_n k75_97 rfl ?_
        refine y_ineg k75_98 ?_
        obtain ⟨u153, g152, hc154, hE⟩ := zbd_some hE
        refine y_invVv (j := 82) (As := [.int x1, .int (-r147)]) (rest := []) (N := zm82) (F82 K 35 x1 (-r147) rw35 _ u153 g152 hc154 (d + 3)) k75_99 lk_0_183 zm82_get na82 rfl (Nat.le_of_ble_eq_true rfl) sh35 (by decide) rfl ?_
        refine y_aload_n k75_102 rfl rfl ?_
        refine y_getR k75_103 fk_0_29 sh0 rfl ?_
        refine y_getR k75_106 fk_0_149 sh34 rfl ?_
        refine y_iload_n k75_109 rfl ?_
        refine y_aload_n k75_110 rfl rfl ?_
        refine y_getR k75_111 fk_0_19 sh0 rfl ?_
        refine y_aload_n k75_114 rfl rfl ?_
        refine y_getR k75_115 fk_0_43 sh0 rfl ?_
        obtain ⟨r156, g155, hc157, hE⟩ := zbd_some hE
        refine y_invVi (j := 83) (As := [.ref 180]) (rest := [.int x1, .ref 41]) (N := zm83) (F83 K 4 180 tol4 li180 _ r156 g155 hc157 (d + 2)) k75_118 lk_0_189 zm83_get na83 rfl (Nat.le_of_ble_eq_true rfl) sh4 (by decide) rfl ?_
        obtain ⟨u159, g158, hc160, hE⟩ := zbd_some hE
        refine y_invVv (j := 82) (As := [.int x1, .int r156]) (rest := []) (N := zm82) (F82 K 41 x1 r156 rw41 _ u159 g158 hc160 (d + 3)) k75_121 lk_0_183 zm82_get na82 rfl (Nat.le_of_ble_eq_true rfl) sh41 (by decide) rfl ?_
        refine y_aload_n k75_124 rfl rfl ?_
        refine y_getR k75_125 fk_0_29 sh0 rfl ?_
        refine y_iload_n k75_128 rfl ?_
        refine y_aload_n k75_129 rfl rfl ?_
        refine y_getR k75_130 fk_0_43 sh0 rfl ?_
        obtain ⟨u162, g161, hc163, hE⟩ := zbd_some hE
        refine y_invVv (j := 84) (As := [.int x1, .ref 180]) (rest := []) (N := zm84) (F84 K 34 x1 180 stt34 li180 _ u162 g161 hc163 (d + 2)) k75_133 lk_0_193 zm84_get na84 rfl (Nat.le_of_ble_eq_true rfl) sh34 (by decide) rfl ?_
        refine y_iconst (v := 1) k75_136 oi_1 ?_
        obtain ⟨rfl, rfl⟩ := zpr hE
        exact y_iret k75_137 rfl
      · rw [if_neg c170] at hE
        refine y_icF 89 k75_60 (by decide) c170 ?_
        refine y_aload_n k75_63 rfl rfl ?_
        refine y_getR k75_64 fk_0_29 sh0 rfl ?_
        refine y_getR k75_67 fk_0_146 sh34 rfl ?_
        refine y_iload_n k75_70 rfl ?_
        refine y_iconst (v := 1) k75_71 oi_1 ?_
        obtain ⟨u165, g164, hc166, hE⟩ := zbd_some hE
        refine y_invVv (j := 82) (As := [.int x1, .int 1]) (rest := []) (N := zm82) (F82 K 39 x1 1 rw39 _ u165 g164 hc166 (d + 3)) k75_72 lk_0_183 zm82_get na82 rfl (Nat.le_of_ble_eq_true rfl) sh39 (by decide) rfl ?_
        refine y_aload_n k75_75 rfl rfl ?_
        refine y_getR k75_76 fk_0_29 sh0 rfl ?_
        refine y_getR k75_79 fk_0_140 sh34 rfl ?_
        refine y_iload_n k75_82 rfl ?_
        refine y_iconst (v := 0) k75_83 oi_0 ?_
        obtain ⟨u168, g167, hc169, hE⟩ := zbd_some hE
        refine y_invVv (j := 14) (As := [.int x1, .int 0]) (rest := []) (N := zm14) (F14 K 35 x1 0 rw35 _ u168 g167 hc169 (d + 4)) k75_84 lk_0_186 zm14_get na14 rfl (Nat.le_of_ble_eq_true rfl) sh35 (by decide) rfl ?_
        refine y_iconst (v := 0) k75_87 oi_0 ?_
        obtain ⟨rfl, rfl⟩ := zpr hE
        exact y_iret k75_88 rfl
    · rw [if_neg c171] at hE
      refine y_ifF 24 k75_18 (by decide) c171 ?_
      refine y_bipush (v := (-4)) k75_21 b8_m4 ?_
      obtain ⟨rfl, rfl⟩ := zpr hE
      exact y_iret k75_23 rfl
  · rw [if_neg c172] at hE
    refine y_ifF 11 k75_5 (by decide) c172 ?_
    refine y_bipush (v := (-2)) k75_8 b8_m2 ?_
    obtain ⟨rfl, rfl⟩ := zpr hE
    exact y_iret k75_10 rfl
-- AdjectiveCoupons.cheapest
def f99 (K : Nat) (x1 : Int32) (g : zS) : Option (Int32 × zS) := if (-1) ≤ x1 then zbd (f100 K  g) fun r118 g117 => if ¬ r118 = 0 then zbd (f59 K 4 (g117 34 0) g117) fun _ g120 => zbd (f101 K 180 g120) fun _ g123 => if (g123 213 3) = (-1) then some ((g123 213 3), g123) else if ¬ x1 = (-1) then zbd (f62 K 217 x1 g123) fun r127 g126 => some (r127, g126) else (some ((g123 213 3), g123)) else (some ((-4), g117)) else (some ((-3), g))
theorem F99 {L : Nat} {xs : Nat → Int32} (K : Nat) (x1 : Int32) (g : zS) (r : Int32) (g' : zS) (hE : f99 K x1 g = some (r, g')) (d : Nat) : zE2 L xs (d + 6) 99 [.ref 0, .int x1] g (some (.int r)) g' := by
  refine y_ev (n := 0) (d := d + 5) (ls := [some (.ref 0), some (.int x1)]) zm99_get (by decide) (Nat.le_of_ble_eq_true rfl) rfl ?_
  unfold f99 at hE
  refine y_iload_n k99_0 rfl ?_
  refine y_iconst (v := (-1)) k99_1 oi_m1 ?_
  by_cases c132 : (-1) ≤ x1
  · rw [if_pos c132] at hE
    refine y_icT (tgt := 8) k99_2 (by decide) c132 ?_
    refine y_aload_n k99_8 rfl rfl ?_
    obtain ⟨r118, g117, hc119, hE⟩ := zbd_some hE
    refine y_invVi (j := 100) (As := []) (rest := []) (N := zm100) (F100 K  _ r118 g117 hc119 (d + 2)) k99_9 lk_0_224 zm100_get na100 rfl (Nat.le_of_ble_eq_true rfl) sh0 (by decide) rfl ?_
    by_cases c131 : ¬ r118 = 0
    · rw [if_pos c131] at hE
      refine y_ifT (tgt := 18) k99_12 (by decide) c131 ?_
      refine y_aload_n k99_18 rfl rfl ?_
      refine y_getR k99_19 fk_0_50 sh0 rfl ?_
      refine y_aload_n k99_22 rfl rfl ?_
      refine y_getR k99_23 fk_0_19 sh0 rfl ?_
      refine y_aload_n k99_26 rfl rfl ?_
      refine y_getR k99_27 fk_0_29 sh0 rfl ?_
      refine y_getI k99_30 fk_0_111 sh34 rfl ?_
      obtain ⟨u121, g120, hc122, hE⟩ := zbd_some hE
      refine y_invVv (j := 59) (As := [.ref 4, .int (g117 34 0)]) (rest := []) (N := zm59) (F59 K 4 (g117 34 0) tol4 _ u121 g120 hc122 (d + 2)) k99_33 lk_0_167 zm59_get na59 rfl (Nat.le_of_ble_eq_true rfl) sh183 (by decide) rfl ?_
      refine y_aload_n k99_36 rfl rfl ?_
      refine y_getR k99_37 fk_0_64 sh0 rfl ?_
      refine y_aload_n k99_40 rfl rfl ?_
      refine y_getR k99_41 fk_0_43 sh0 rfl ?_
      refine y_aload_n k99_44 rfl rfl ?_
      refine y_getR k99_45 fk_0_50 sh0 rfl ?_
      obtain ⟨u124, g123, hc125, hE⟩ := zbd_some hE
      refine y_invVv (j := 101) (As := [.ref 180, .ref 183]) (rest := []) (N := zm101) (F101 K 180 li180 _ u124 g123 hc125 (d + 0)) k99_48 lk_0_227 zm101_get na101 rfl (Nat.le_of_ble_eq_true rfl) sh213 (by decide) rfl ?_
      refine y_aload_n k99_51 rfl rfl ?_
      refine y_getR k99_52 fk_0_64 sh0 rfl ?_
      refine y_getI k99_55 fk_0_231 sh213 rfl ?_
      refine y_iconst (v := (-1)) k99_58 oi_m1 ?_
      by_cases c130 : (g123 213 3) = (-1)
      · rw [if_pos c130] at hE
        refine y_icT (tgt := 67) k99_59 (by decide) c130 ?_
        refine y_aload_n k99_67 rfl rfl ?_
        refine y_getR k99_68 fk_0_64 sh0 rfl ?_
        refine y_getI k99_71 fk_0_231 sh213 rfl ?_
        obtain ⟨rfl, rfl⟩ := zpr hE
        exact y_iret k99_74 rfl
      · rw [if_neg c130] at hE
        refine y_icF 67 k99_59 (by decide) c130 ?_
        refine y_iload_n k99_62 rfl ?_
        refine y_iconst (v := (-1)) k99_63 oi_m1 ?_
        by_cases c129 : ¬ x1 = (-1)
        · rw [if_pos c129] at hE
          refine y_icT (tgt := 75) k99_64 (by decide) c129 ?_
          refine y_aload_n k99_75 rfl rfl ?_
          refine y_getR k99_76 fk_0_64 sh0 rfl ?_
          refine y_getR k99_79 fk_0_234 sh213 rfl ?_
          refine y_iload_n k99_82 rfl ?_
          obtain ⟨r127, g126, hc128, hE⟩ := zbd_some hE
          refine y_invVi (j := 62) (As := [.int x1]) (rest := []) (N := zm62) (F62 K 217 x1 li217 _ r127 g126 hc128 (d + 3)) k99_83 lk_0_164 zm62_get na62 rfl (Nat.le_of_ble_eq_true rfl) sh217 (by decide) rfl ?_
          obtain ⟨rfl, rfl⟩ := zpr hE
          exact y_iret k99_86 rfl
        · rw [if_neg c129] at hE
          refine y_icF 75 k99_64 (by decide) c129 ?_
          refine y_aload_n k99_67 rfl rfl ?_
          refine y_getR k99_68 fk_0_64 sh0 rfl ?_
          refine y_getI k99_71 fk_0_231 sh213 rfl ?_
          obtain ⟨rfl, rfl⟩ := zpr hE
          exact y_iret k99_74 rfl
    · rw [if_neg c131] at hE
      refine y_ifF 18 k99_12 (by decide) c131 ?_
      refine y_bipush (v := (-4)) k99_15 b8_m4 ?_
      obtain ⟨rfl, rfl⟩ := zpr hE
      exact y_iret k99_17 rfl
  · rw [if_neg c132] at hE
    refine y_icF 8 k99_2 (by decide) c132 ?_
    refine y_bipush (v := (-3)) k99_5 b8_m3 ?_
    obtain ⟨rfl, rfl⟩ := zpr hE
    exact y_iret k99_7 rfl
-- AdjectiveCoupons.loophole
def f108 (K : Nat) (g : zS) : Option (Int32 × zS) := zbd (f100 K  g) fun r113 g112 => if ¬ r113 = 0 then zbd (f59 K 4 (g112 34 0) g112) fun _ g115 => zbd (f101 K 180 g115) fun _ g118 => if ¬ (g118 213 3) = (-1) then some (((g118 213 4) - (g118 213 3)), g118) else (some ((-1), g118)) else (some ((-4), g112))
theorem F108 {L : Nat} {xs : Nat → Int32} (K : Nat) (g : zS) (r : Int32) (g' : zS) (hE : f108 K  g = some (r, g')) (d : Nat) : zE2 L xs (d + 6) 108 [.ref 0] g (some (.int r)) g' := by
  refine y_ev (n := 0) (d := d + 5) (ls := [some (.ref 0)]) zm108_get (by decide) (Nat.le_of_ble_eq_true rfl) rfl ?_
  unfold f108 at hE
  refine y_aload_n k108_0 rfl rfl ?_
  obtain ⟨r113, g112, hc114, hE⟩ := zbd_some hE
  refine y_invVi (j := 100) (As := []) (rest := []) (N := zm100) (F100 K  _ r113 g112 hc114 (d + 2)) k108_1 lk_0_224 zm100_get na100 rfl (Nat.le_of_ble_eq_true rfl) sh0 (by decide) rfl ?_
  by_cases c122 : ¬ r113 = 0
  · rw [if_pos c122] at hE
    refine y_ifT (tgt := 10) k108_4 (by decide) c122 ?_
    refine y_aload_n k108_10 rfl rfl ?_
    refine y_getR k108_11 fk_0_50 sh0 rfl ?_
    refine y_aload_n k108_14 rfl rfl ?_
    refine y_getR k108_15 fk_0_19 sh0 rfl ?_
    refine y_aload_n k108_18 rfl rfl ?_
    refine y_getR k108_19 fk_0_29 sh0 rfl ?_
    refine y_getI k108_22 fk_0_111 sh34 rfl ?_
    obtain ⟨u116, g115, hc117, hE⟩ := zbd_some hE
    refine y_invVv (j := 59) (As := [.ref 4, .int (g112 34 0)]) (rest := []) (N := zm59) (F59 K 4 (g112 34 0) tol4 _ u116 g115 hc117 (d + 2)) k108_25 lk_0_167 zm59_get na59 rfl (Nat.le_of_ble_eq_true rfl) sh183 (by decide) rfl ?_
    refine y_aload_n k108_28 rfl rfl ?_
    refine y_getR k108_29 fk_0_64 sh0 rfl ?_
    refine y_aload_n k108_32 rfl rfl ?_
    refine y_getR k108_33 fk_0_43 sh0 rfl ?_
    refine y_aload_n k108_36 rfl rfl ?_
    refine y_getR k108_37 fk_0_50 sh0 rfl ?_
    obtain ⟨u119, g118, hc120, hE⟩ := zbd_some hE
    refine y_invVv (j := 101) (As := [.ref 180, .ref 183]) (rest := []) (N := zm101) (F101 K 180 li180 _ u119 g118 hc120 (d + 0)) k108_40 lk_0_227 zm101_get na101 rfl (Nat.le_of_ble_eq_true rfl) sh213 (by decide) rfl ?_
    refine y_aload_n k108_43 rfl rfl ?_
    refine y_getR k108_44 fk_0_64 sh0 rfl ?_
    refine y_getI k108_47 fk_0_231 sh213 rfl ?_
    refine y_iconst (v := (-1)) k108_50 oi_m1 ?_
    by_cases c121 : ¬ (g118 213 3) = (-1)
    · rw [if_pos c121] at hE
      refine y_icT (tgt := 58) k108_51 (by decide) c121 ?_
      refine y_aload_n k108_58 rfl rfl ?_
      refine y_getR k108_59 fk_0_64 sh0 rfl ?_
      refine y_getI k108_62 fk_0_237 sh213 rfl ?_
      refine y_aload_n k108_65 rfl rfl ?_
      refine y_getR k108_66 fk_0_64 sh0 rfl ?_
      refine y_getI k108_69 fk_0_231 sh213 rfl ?_
      refine y_isub k108_72 ?_
      obtain ⟨rfl, rfl⟩ := zpr hE
      exact y_iret k108_73 rfl
    · rw [if_neg c121] at hE
      refine y_icF 58 k108_51 (by decide) c121 ?_
      refine y_iconst (v := (-1)) k108_54 oi_m1 ?_
      refine y_goto (tgt := 73) k108_55 (by decide) ?_
      obtain ⟨rfl, rfl⟩ := zpr hE
      exact y_iret k108_73 rfl
  · rw [if_neg c122] at hE
    refine y_ifF 10 k108_4 (by decide) c122 ?_
    refine y_bipush (v := (-4)) k108_7 b8_m4 ?_
    obtain ⟨rfl, rfl⟩ := zpr hE
    exact y_iret k108_9 rfl
-- AdjectiveCoupons.leftOut
def f109 (K : Nat) (x1 : Int32) (x2 : Int32) (g : zS) : Option (Int32 × zS) := zbd (f12 K x1 0 99 g) fun r117 g116 => if r117 = 0 then some ((-3), g116) else (zbd (f12 K x2 0 1 g116) fun r120 g119 => if ¬ r120 = 0 then zbd (f59 K 4 (g119 34 0) g119) fun _ g122 => zbd (f110 K 180 x1 g122) fun _ g125 => if ¬ x2 = 0 then some ((g125 213 5), g125) else (some ((g125 213 3), g125)) else (some ((-3), g119)))
theorem F109 {L : Nat} {xs : Nat → Int32} (K : Nat) (x1 : Int32) (x2 : Int32) (g : zS) (r : Int32) (g' : zS) (hE : f109 K x1 x2 g = some (r, g')) (d : Nat) : zE2 L xs (d + 6) 109 [.ref 0, .int x1, .int x2] g (some (.int r)) g' := by
  refine y_ev (n := 0) (d := d + 5) (ls := [some (.ref 0), some (.int x1), some (.int x2)]) zm109_get (by decide) (Nat.le_of_ble_eq_true rfl) rfl ?_
  unfold f109 at hE
  refine y_iload_n k109_0 rfl ?_
  refine y_iconst (v := 0) k109_1 oi_0 ?_
  refine y_bipush (v := 99) k109_2 b8_99 ?_
  obtain ⟨r117, g116, hc118, hE⟩ := zbd_some hE
  refine y_invSi (j := 12) (As := [.int x1, .int 0, .int 99]) (rest := []) (N := zm12) (F12 K x1 0 99 _ r117 g116 hc118 (d + 4)) k109_4 lk_0_68 zm12_get na12 rfl (Nat.le_of_ble_eq_true rfl) ?_
  by_cases c130 : r117 = 0
  · rw [if_pos c130] at hE
    refine y_ifT (tgt := 19) k109_7 (by decide) c130 ?_
    refine y_bipush (v := (-3)) k109_19 b8_m3 ?_
    obtain ⟨rfl, rfl⟩ := zpr hE
    exact y_iret k109_21 rfl
  · rw [if_neg c130] at hE
    refine y_ifF 19 k109_7 (by decide) c130 ?_
    refine y_iload_n k109_10 rfl ?_
    refine y_iconst (v := 0) k109_11 oi_0 ?_
    refine y_iconst (v := 1) k109_12 oi_1 ?_
    obtain ⟨r120, g119, hc121, hE⟩ := zbd_some hE
    refine y_invSi (j := 12) (As := [.int x2, .int 0, .int 1]) (rest := []) (N := zm12) (F12 K x2 0 1 _ r120 g119 hc121 (d + 4)) k109_13 lk_0_68 zm12_get na12 rfl (Nat.le_of_ble_eq_true rfl) ?_
    by_cases c129 : ¬ r120 = 0
    · rw [if_pos c129] at hE
      refine y_ifT (tgt := 22) k109_16 (by decide) c129 ?_
      refine y_aload_n k109_22 rfl rfl ?_
      refine y_getR k109_23 fk_0_50 sh0 rfl ?_
      refine y_aload_n k109_26 rfl rfl ?_
      refine y_getR k109_27 fk_0_19 sh0 rfl ?_
      refine y_aload_n k109_30 rfl rfl ?_
      refine y_getR k109_31 fk_0_29 sh0 rfl ?_
      refine y_getI k109_34 fk_0_111 sh34 rfl ?_
      obtain ⟨u123, g122, hc124, hE⟩ := zbd_some hE
      refine y_invVv (j := 59) (As := [.ref 4, .int (g119 34 0)]) (rest := []) (N := zm59) (F59 K 4 (g119 34 0) tol4 _ u123 g122 hc124 (d + 2)) k109_37 lk_0_167 zm59_get na59 rfl (Nat.le_of_ble_eq_true rfl) sh183 (by decide) rfl ?_
      refine y_aload_n k109_40 rfl rfl ?_
      refine y_getR k109_41 fk_0_64 sh0 rfl ?_
      refine y_aload_n k109_44 rfl rfl ?_
      refine y_getR k109_45 fk_0_43 sh0 rfl ?_
      refine y_aload_n k109_48 rfl rfl ?_
      refine y_getR k109_49 fk_0_50 sh0 rfl ?_
      refine y_iload_n k109_52 rfl ?_
      obtain ⟨u126, g125, hc127, hE⟩ := zbd_some hE
      refine y_invVv (j := 110) (As := [.ref 180, .ref 183, .int x1]) (rest := []) (N := zm110) (F110 K 180 x1 li180 _ u126 g125 hc127 (d + 0)) k109_53 lk_0_240 zm110_get na110 rfl (Nat.le_of_ble_eq_true rfl) sh213 (by decide) rfl ?_
      refine y_iload_n k109_56 rfl ?_
      by_cases c128 : ¬ x2 = 0
      · rw [if_pos c128] at hE
        refine y_ifT (tgt := 70) k109_57 (by decide) c128 ?_
        refine y_aload_n k109_70 rfl rfl ?_
        refine y_getR k109_71 fk_0_64 sh0 rfl ?_
        refine y_getI k109_74 fk_0_244 sh213 rfl ?_
        obtain ⟨rfl, rfl⟩ := zpr hE
        exact y_iret k109_77 rfl
      · rw [if_neg c128] at hE
        refine y_ifF 70 k109_57 (by decide) c128 ?_
        refine y_aload_n k109_60 rfl rfl ?_
        refine y_getR k109_61 fk_0_64 sh0 rfl ?_
        refine y_getI k109_64 fk_0_231 sh213 rfl ?_
        refine y_goto (tgt := 77) k109_67 (by decide) ?_
        obtain ⟨rfl, rfl⟩ := zpr hE
        exact y_iret k109_77 rfl
    · rw [if_neg c129] at hE
      refine y_ifF 22 k109_16 (by decide) c129 ?_
      refine y_bipush (v := (-3)) k109_19 b8_m3 ?_
      obtain ⟨rfl, rfl⟩ := zpr hE
      exact y_iret k109_21 rfl
-- AdjectiveCoupons.holes
def f113 (K : Nat) (x1 : Int32) (x2 : Int32) (g : zS) : Option (Int32 × zS) := zbd (f12 K x1 0 99 g) fun r126 g125 => if r126 = 0 then some ((-3), g125) else if (-1) ≤ x2 then zbd (f77 K 180 g125) fun r129 g128 => if r129 ≤ 3 then zbd (f59 K 4 (g128 34 0) g128) fun _ g131 => zbd (f114 K 180 (g131 4 0) x1 g131) fun _ g134 => if ¬ x2 = (-1) then if (g134 213 6) ≤ 0 then some ((-1), g134) else if r129 ≤ x2 then some ((-1), g134) else (zbd (f115 K 180 x2 g134) fun r138 g137 => zbd (f62 K 217 r138 g137) fun r141 g140 => some (r141, g140)) else (some ((g134 213 6), g134)) else (some ((-4), g128)) else (some ((-3), g125))
theorem F113 {L : Nat} {xs : Nat → Int32} (K : Nat) (x1 : Int32) (x2 : Int32) (g : zS) (r : Int32) (g' : zS) (hE : f113 K x1 x2 g = some (r, g')) (d : Nat) : zE2 L xs (d + 6) 113 [.ref 0, .int x1, .int x2] g (some (.int r)) g' := by
  refine y_ev (n := 0) (d := d + 5) (ls := [some (.ref 0), some (.int x1), some (.int x2), none]) zm113_get (by decide) (Nat.le_of_ble_eq_true rfl) rfl ?_
  unfold f113 at hE
  refine y_iload_n k113_0 rfl ?_
  refine y_iconst (v := 0) k113_1 oi_0 ?_
  refine y_bipush (v := 99) k113_2 b8_99 ?_
  obtain ⟨r126, g125, hc127, hE⟩ := zbd_some hE
  refine y_invSi (j := 12) (As := [.int x1, .int 0, .int 99]) (rest := []) (N := zm12) (F12 K x1 0 99 _ r126 g125 hc127 (d + 4)) k113_4 lk_0_68 zm12_get na12 rfl (Nat.le_of_ble_eq_true rfl) ?_
  by_cases c148 : r126 = 0
  · rw [if_pos c148] at hE
    refine y_ifT (tgt := 15) k113_7 (by decide) c148 ?_
    refine y_bipush (v := (-3)) k113_15 b8_m3 ?_
    obtain ⟨rfl, rfl⟩ := zpr hE
    exact y_iret k113_17 rfl
  · rw [if_neg c148] at hE
    refine y_ifF 15 k113_7 (by decide) c148 ?_
    refine y_iload_n k113_10 rfl ?_
    refine y_iconst (v := (-1)) k113_11 oi_m1 ?_
    by_cases c147 : (-1) ≤ x2
    · rw [if_pos c147] at hE
      refine y_icT (tgt := 18) k113_12 (by decide) c147 ?_
      refine y_aload_n k113_18 rfl rfl ?_
      refine y_getR k113_19 fk_0_43 sh0 rfl ?_
      obtain ⟨r129, g128, hc130, hE⟩ := zbd_some hE
      refine y_invVi (j := 77) (As := []) (rest := []) (N := zm77) (F77 K 180 li180 _ r129 g128 hc130 (d + 3)) k113_22 lk_0_246 zm77_get na77 rfl (Nat.le_of_ble_eq_true rfl) sh180 (by decide) rfl ?_
      refine y_istore_n (ls2 := [some (.ref 0), some (.int x1), some (.int x2), some (.int r129)]) k113_25 rfl (Nat.le_of_ble_eq_true rfl) rfl ?_
      refine y_iload_n k113_26 rfl ?_
      refine y_iconst (v := 3) k113_27 oi_3 ?_
      by_cases c146 : r129 ≤ 3
      · rw [if_pos c146] at hE
        refine y_icT (tgt := 34) k113_28 (by decide) c146 ?_
        refine y_aload_n k113_34 rfl rfl ?_
        refine y_getR k113_35 fk_0_50 sh0 rfl ?_
        refine y_aload_n k113_38 rfl rfl ?_
        refine y_getR k113_39 fk_0_19 sh0 rfl ?_
        refine y_aload_n k113_42 rfl rfl ?_
        refine y_getR k113_43 fk_0_29 sh0 rfl ?_
        refine y_getI k113_46 fk_0_111 sh34 rfl ?_
        obtain ⟨u132, g131, hc133, hE⟩ := zbd_some hE
        refine y_invVv (j := 59) (As := [.ref 4, .int (g128 34 0)]) (rest := []) (N := zm59) (F59 K 4 (g128 34 0) tol4 _ u132 g131 hc133 (d + 2)) k113_49 lk_0_167 zm59_get na59 rfl (Nat.le_of_ble_eq_true rfl) sh183 (by decide) rfl ?_
        refine y_aload_n k113_52 rfl rfl ?_
        refine y_getR k113_53 fk_0_64 sh0 rfl ?_
        refine y_aload_n k113_56 rfl rfl ?_
        refine y_getR k113_57 fk_0_43 sh0 rfl ?_
        refine y_aload_n k113_60 rfl rfl ?_
        refine y_getR k113_61 fk_0_50 sh0 rfl ?_
        refine y_aload_n k113_64 rfl rfl ?_
        refine y_getR k113_65 fk_0_19 sh0 rfl ?_
        refine y_getI k113_68 fk_0_250 sh4 rfl ?_
        refine y_iload_n k113_71 rfl ?_
        obtain ⟨u135, g134, hc136, hE⟩ := zbd_some hE
        refine y_invVv (j := 114) (As := [.ref 180, .ref 183, .int (g131 4 0), .int x1]) (rest := []) (N := zm114) (F114 K 180 (g131 4 0) x1 li180 _ u135 g134 hc136 (d + 0)) k113_72 lk_0_253 zm114_get na114 rfl (Nat.le_of_ble_eq_true rfl) sh213 (by decide) rfl ?_
        refine y_iload_n k113_75 rfl ?_
        refine y_iconst (v := (-1)) k113_76 oi_m1 ?_
        by_cases c145 : ¬ x2 = (-1)
        · rw [if_pos c145] at hE
          refine y_icT (tgt := 88) k113_77 (by decide) c145 ?_
          refine y_aload_n k113_88 rfl rfl ?_
          refine y_getR k113_89 fk_0_64 sh0 rfl ?_
          refine y_getI k113_92 fk_0_257 sh213 rfl ?_
          by_cases c144 : (g134 213 6) ≤ 0
          · rw [if_pos c144] at hE
            refine y_ifT (tgt := 124) k113_95 (by decide) c144 ?_
            refine y_iconst (v := (-1)) k113_124 oi_m1 ?_
            obtain ⟨rfl, rfl⟩ := zpr hE
            exact y_iret k113_125 rfl
          · rw [if_neg c144] at hE
            refine y_ifF 124 k113_95 (by decide) c144 ?_
            refine y_iload_n k113_98 rfl ?_
            refine y_iload_n k113_99 rfl ?_
            by_cases c143 : r129 ≤ x2
            · rw [if_pos c143] at hE
              refine y_icT (tgt := 124) k113_100 (by decide) c143 ?_
              refine y_iconst (v := (-1)) k113_124 oi_m1 ?_
              obtain ⟨rfl, rfl⟩ := zpr hE
              exact y_iret k113_125 rfl
            · rw [if_neg c143] at hE
              refine y_icF 124 k113_100 (by decide) c143 ?_
              refine y_aload_n k113_103 rfl rfl ?_
              refine y_getR k113_104 fk_0_64 sh0 rfl ?_
              refine y_getR k113_107 fk_0_234 sh213 rfl ?_
              refine y_aload_n k113_110 rfl rfl ?_
              refine y_getR k113_111 fk_0_43 sh0 rfl ?_
              refine y_iload_n k113_114 rfl ?_
              obtain ⟨r138, g137, hc139, hE⟩ := zbd_some hE
              refine y_invVi (j := 115) (As := [.int x2]) (rest := [.ref 217]) (N := zm115) (F115 K 180 x2 li180 _ r138 g137 hc139 (d + 3)) k113_115 lk_0_260 zm115_get na115 rfl (Nat.le_of_ble_eq_true rfl) sh180 (by decide) rfl ?_
              obtain ⟨r141, g140, hc142, hE⟩ := zbd_some hE
              refine y_invVi (j := 62) (As := [.int r138]) (rest := []) (N := zm62) (F62 K 217 r138 li217 _ r141 g140 hc142 (d + 3)) k113_118 lk_0_164 zm62_get na62 rfl (Nat.le_of_ble_eq_true rfl) sh217 (by decide) rfl ?_
              refine y_goto (tgt := 125) k113_121 (by decide) ?_
              obtain ⟨rfl, rfl⟩ := zpr hE
              exact y_iret k113_125 rfl
        · rw [if_neg c145] at hE
          refine y_icF 88 k113_77 (by decide) c145 ?_
          refine y_aload_n k113_80 rfl rfl ?_
          refine y_getR k113_81 fk_0_64 sh0 rfl ?_
          refine y_getI k113_84 fk_0_257 sh213 rfl ?_
          obtain ⟨rfl, rfl⟩ := zpr hE
          exact y_iret k113_87 rfl
      · rw [if_neg c146] at hE
        refine y_icF 34 k113_28 (by decide) c146 ?_
        refine y_bipush (v := (-4)) k113_31 b8_m4 ?_
        obtain ⟨rfl, rfl⟩ := zpr hE
        exact y_iret k113_33 rfl
    · rw [if_neg c147] at hE
      refine y_icF 18 k113_12 (by decide) c147 ?_
      refine y_bipush (v := (-3)) k113_15 b8_m3 ?_
      obtain ⟨rfl, rfl⟩ := zpr hE
      exact y_iret k113_17 rfl
-- AdjectiveCoupons.page
def f123 (K : Nat) (x1 : Int32) (x2 : Int32) (g : zS) : Option (Int32 × zS) := zbd (f12 K x1 0 99 g) fun r120 g119 => if r120 = 0 then some ((-3), g119) else (zbd (f12 K x2 0 1 g119) fun r123 g122 => if ¬ r123 = 0 then zbd (f124 K 4 g122) fun _ g125 => zbd (f125 K 4 (g125 34 0) g125) fun _ g128 => zbd (f126 K x1 g128) fun _ g131 => if ¬ x2 = 0 then some ((g131 186 6), g131) else (some ((g131 186 5), g131)) else (some ((-3), g122)))
theorem F123 {L : Nat} {xs : Nat → Int32} (K : Nat) (x1 : Int32) (x2 : Int32) (g : zS) (r : Int32) (g' : zS) (hE : f123 K x1 x2 g = some (r, g')) (d : Nat) : zE2 L xs (d + 6) 123 [.ref 0, .int x1, .int x2] g (some (.int r)) g' := by
  refine y_ev (n := 0) (d := d + 5) (ls := [some (.ref 0), some (.int x1), some (.int x2)]) zm123_get (by decide) (Nat.le_of_ble_eq_true rfl) rfl ?_
  unfold f123 at hE
  refine y_iload_n k123_0 rfl ?_
  refine y_iconst (v := 0) k123_1 oi_0 ?_
  refine y_bipush (v := 99) k123_2 b8_99 ?_
  obtain ⟨r120, g119, hc121, hE⟩ := zbd_some hE
  refine y_invSi (j := 12) (As := [.int x1, .int 0, .int 99]) (rest := []) (N := zm12) (F12 K x1 0 99 _ r120 g119 hc121 (d + 4)) k123_4 lk_0_68 zm12_get na12 rfl (Nat.le_of_ble_eq_true rfl) ?_
  by_cases c136 : r120 = 0
  · rw [if_pos c136] at hE
    refine y_ifT (tgt := 19) k123_7 (by decide) c136 ?_
    refine y_bipush (v := (-3)) k123_19 b8_m3 ?_
    obtain ⟨rfl, rfl⟩ := zpr hE
    exact y_iret k123_21 rfl
  · rw [if_neg c136] at hE
    refine y_ifF 19 k123_7 (by decide) c136 ?_
    refine y_iload_n k123_10 rfl ?_
    refine y_iconst (v := 0) k123_11 oi_0 ?_
    refine y_iconst (v := 1) k123_12 oi_1 ?_
    obtain ⟨r123, g122, hc124, hE⟩ := zbd_some hE
    refine y_invSi (j := 12) (As := [.int x2, .int 0, .int 1]) (rest := []) (N := zm12) (F12 K x2 0 1 _ r123 g122 hc124 (d + 4)) k123_13 lk_0_68 zm12_get na12 rfl (Nat.le_of_ble_eq_true rfl) ?_
    by_cases c135 : ¬ r123 = 0
    · rw [if_pos c135] at hE
      refine y_ifT (tgt := 22) k123_16 (by decide) c135 ?_
      refine y_aload_n k123_22 rfl rfl ?_
      refine y_getR k123_23 fk_0_57 sh0 rfl ?_
      refine y_aload_n k123_26 rfl rfl ?_
      refine y_getR k123_27 fk_0_19 sh0 rfl ?_
      obtain ⟨u126, g125, hc127, hE⟩ := zbd_some hE
      refine y_invVv (j := 124) (As := [.ref 4]) (rest := []) (N := zm124) (F124 K 4 tol4 _ u126 g125 hc127 (d + 1)) k123_30 lk_0_272 zm124_get na124 rfl (Nat.le_of_ble_eq_true rfl) sh186 (by decide) rfl ?_
      refine y_aload_n k123_33 rfl rfl ?_
      refine y_getR k123_34 fk_0_57 sh0 rfl ?_
      refine y_aload_n k123_37 rfl rfl ?_
      refine y_getR k123_38 fk_0_19 sh0 rfl ?_
      refine y_aload_n k123_41 rfl rfl ?_
      refine y_getR k123_42 fk_0_50 sh0 rfl ?_
      refine y_aload_n k123_45 rfl rfl ?_
      refine y_getR k123_46 fk_0_29 sh0 rfl ?_
      refine y_getI k123_49 fk_0_111 sh34 rfl ?_
      obtain ⟨u129, g128, hc130, hE⟩ := zbd_some hE
      refine y_invVv (j := 125) (As := [.ref 4, .ref 183, .int (g125 34 0)]) (rest := []) (N := zm125) (F125 K 4 (g125 34 0) tol4 _ u129 g128 hc130 (d + 0)) k123_52 lk_0_275 zm125_get na125 rfl (Nat.le_of_ble_eq_true rfl) sh186 (by decide) rfl ?_
      refine y_aload_n k123_55 rfl rfl ?_
      refine y_getR k123_56 fk_0_57 sh0 rfl ?_
      refine y_iload_n k123_59 rfl ?_
      obtain ⟨u132, g131, hc133, hE⟩ := zbd_some hE
      refine y_invVv (j := 126) (As := [.int x1]) (rest := []) (N := zm126) (F126 K x1 _ u132 g131 hc133 (d + 1)) k123_60 lk_0_279 zm126_get na126 rfl (Nat.le_of_ble_eq_true rfl) sh186 (by decide) rfl ?_
      refine y_iload_n k123_63 rfl ?_
      by_cases c134 : ¬ x2 = 0
      · rw [if_pos c134] at hE
        refine y_ifT (tgt := 77) k123_64 (by decide) c134 ?_
        refine y_aload_n k123_77 rfl rfl ?_
        refine y_getR k123_78 fk_0_57 sh0 rfl ?_
        refine y_getI k123_81 fk_0_286 sh186 rfl ?_
        obtain ⟨rfl, rfl⟩ := zpr hE
        exact y_iret k123_84 rfl
      · rw [if_neg c134] at hE
        refine y_ifF 77 k123_64 (by decide) c134 ?_
        refine y_aload_n k123_67 rfl rfl ?_
        refine y_getR k123_68 fk_0_57 sh0 rfl ?_
        refine y_getI k123_71 fk_0_283 sh186 rfl ?_
        refine y_goto (tgt := 84) k123_74 (by decide) ?_
        obtain ⟨rfl, rfl⟩ := zpr hE
        exact y_iret k123_84 rfl
    · rw [if_neg c135] at hE
      refine y_ifF 22 k123_16 (by decide) c135 ?_
      refine y_bipush (v := (-3)) k123_19 b8_m3 ?_
      obtain ⟨rfl, rfl⟩ := zpr hE
      exact y_iret k123_21 rfl
-- AdjectiveCoupons.plan
def f129 (K : Nat) (x1 : Int32) (x2 : Int32) (g : zS) : Option (Int32 × zS) := zbd (f53 K x1 g) fun r129 g128 => if ¬ r129 = 0 then zbd (f12 K x2 0 1 g128) fun r132 g131 => if ¬ r132 = 0 then zbd (f124 K 4 g131) fun _ g134 => zbd (f54 K 4 x1 g134) fun r138 g137 => zbd (f130 K 4 (g134 34 0) r138 g137) fun _ g140 => zbd (f21 K 35 x1 g140) fun r144 g143 => zbd (f54 K 4 x1 g143) fun r147 g146 => zbd (f131 K r144 r147 (g146 4 3) g146) fun _ g149 => if ¬ x2 = 0 then some ((g149 186 6), g149) else (some ((g149 186 5), g149)) else (some ((-3), g131)) else (some ((-2), g128))
theorem F129 {L : Nat} {xs : Nat → Int32} (K : Nat) (x1 : Int32) (x2 : Int32) (g : zS) (r : Int32) (g' : zS) (hE : f129 K x1 x2 g = some (r, g')) (d : Nat) : zE2 L xs (d + 6) 129 [.ref 0, .int x1, .int x2] g (some (.int r)) g' := by
  refine y_ev (n := 0) (d := d + 5) (ls := [some (.ref 0), some (.int x1), some (.int x2)]) zm129_get (by decide) (Nat.le_of_ble_eq_true rfl) rfl ?_
  unfold f129 at hE
  refine y_aload_n k129_0 rfl rfl ?_
  refine y_iload_n k129_1 rfl ?_
  obtain ⟨r129, g128, hc130, hE⟩ := zbd_some hE
  refine y_invVi (j := 53) (As := [.int x1]) (rest := []) (N := zm53) (F53 K x1 _ r129 g128 hc130 (d + 3)) k129_2 lk_0_134 zm53_get na53 rfl (Nat.le_of_ble_eq_true rfl) sh0 (by decide) rfl ?_
  by_cases c154 : ¬ r129 = 0
  · rw [if_pos c154] at hE
    refine y_ifT (tgt := 11) k129_5 (by decide) c154 ?_
    refine y_iload_n k129_11 rfl ?_
    refine y_iconst (v := 0) k129_12 oi_0 ?_
    refine y_iconst (v := 1) k129_13 oi_1 ?_
    obtain ⟨r132, g131, hc133, hE⟩ := zbd_some hE
    refine y_invSi (j := 12) (As := [.int x2, .int 0, .int 1]) (rest := []) (N := zm12) (F12 K x2 0 1 _ r132 g131 hc133 (d + 4)) k129_14 lk_0_68 zm12_get na12 rfl (Nat.le_of_ble_eq_true rfl) ?_
    by_cases c153 : ¬ r132 = 0
    · rw [if_pos c153] at hE
      refine y_ifT (tgt := 23) k129_17 (by decide) c153 ?_
      refine y_aload_n k129_23 rfl rfl ?_
      refine y_getR k129_24 fk_0_57 sh0 rfl ?_
      refine y_aload_n k129_27 rfl rfl ?_
      refine y_getR k129_28 fk_0_19 sh0 rfl ?_
      obtain ⟨u135, g134, hc136, hE⟩ := zbd_some hE
      refine y_invVv (j := 124) (As := [.ref 4]) (rest := []) (N := zm124) (F124 K 4 tol4 _ u135 g134 hc136 (d + 1)) k129_31 lk_0_272 zm124_get na124 rfl (Nat.le_of_ble_eq_true rfl) sh186 (by decide) rfl ?_
      refine y_aload_n k129_34 rfl rfl ?_
      refine y_getR k129_35 fk_0_57 sh0 rfl ?_
      refine y_aload_n k129_38 rfl rfl ?_
      refine y_getR k129_39 fk_0_19 sh0 rfl ?_
      refine y_aload_n k129_42 rfl rfl ?_
      refine y_getR k129_43 fk_0_50 sh0 rfl ?_
      refine y_aload_n k129_46 rfl rfl ?_
      refine y_getR k129_47 fk_0_29 sh0 rfl ?_
      refine y_getI k129_50 fk_0_111 sh34 rfl ?_
      refine y_aload_n k129_53 rfl rfl ?_
      refine y_getR k129_54 fk_0_19 sh0 rfl ?_
      refine y_iload_n k129_57 rfl ?_
      obtain ⟨r138, g137, hc139, hE⟩ := zbd_some hE
      refine y_invVi (j := 54) (As := [.int x1]) (rest := [.int (g134 34 0), .ref 183, .ref 4, .ref 186]) (N := zm54) (F54 K 4 x1 tol4 _ r138 g137 hc139 (d + 3)) k129_58 lk_0_137 zm54_get na54 rfl (Nat.le_of_ble_eq_true rfl) sh4 (by decide) rfl ?_
      obtain ⟨u141, g140, hc142, hE⟩ := zbd_some hE
      refine y_invVv (j := 130) (As := [.ref 4, .ref 183, .int (g134 34 0), .int r138]) (rest := []) (N := zm130) (F130 K 4 (g134 34 0) r138 tol4 _ u141 g140 hc142 (d + 0)) k129_61 lk_0_289 zm130_get na130 rfl (Nat.le_of_ble_eq_true rfl) sh186 (by decide) rfl ?_
      refine y_aload_n k129_64 rfl rfl ?_
      refine y_getR k129_65 fk_0_57 sh0 rfl ?_
      refine y_aload_n k129_68 rfl rfl ?_
      refine y_getR k129_69 fk_0_29 sh0 rfl ?_
      refine y_getR k129_72 fk_0_140 sh34 rfl ?_
      refine y_iload_n k129_75 rfl ?_
      obtain ⟨r144, g143, hc145, hE⟩ := zbd_some hE
      refine y_invVi (j := 21) (As := [.int x1]) (rest := [.ref 186]) (N := zm21) (F21 K 35 x1 rw35 _ r144 g143 hc145 (d + 4)) k129_76 lk_0_122 zm21_get na21 rfl (Nat.le_of_ble_eq_true rfl) sh35 (by decide) rfl ?_
      refine y_aload_n k129_79 rfl rfl ?_
      refine y_getR k129_80 fk_0_19 sh0 rfl ?_
      refine y_iload_n k129_83 rfl ?_
      obtain ⟨r147, g146, hc148, hE⟩ := zbd_some hE
      refine y_invVi (j := 54) (As := [.int x1]) (rest := [.int r144, .ref 186]) (N := zm54) (F54 K 4 x1 tol4 _ r147 g146 hc148 (d + 3)) k129_84 lk_0_137 zm54_get na54 rfl (Nat.le_of_ble_eq_true rfl) sh4 (by decide) rfl ?_
      refine y_aload_n k129_87 rfl rfl ?_
      refine y_getR k129_88 fk_0_19 sh0 rfl ?_
      refine y_getI k129_91 fk_0_91 sh4 rfl ?_
      obtain ⟨u150, g149, hc151, hE⟩ := zbd_some hE
      refine y_invVv (j := 131) (As := [.int r144, .int r147, .int (g146 4 3)]) (rest := []) (N := zm131) (F131 K r144 r147 (g146 4 3) _ u150 g149 hc151 (d + 1)) k129_94 lk_0_293 zm131_get na131 rfl (Nat.le_of_ble_eq_true rfl) sh186 (by decide) rfl ?_
      refine y_iload_n k129_97 rfl ?_
      by_cases c152 : ¬ x2 = 0
      · rw [if_pos c152] at hE
        refine y_ifT (tgt := 111) k129_98 (by decide) c152 ?_
        refine y_aload_n k129_111 rfl rfl ?_
        refine y_getR k129_112 fk_0_57 sh0 rfl ?_
        refine y_getI k129_115 fk_0_286 sh186 rfl ?_
        obtain ⟨rfl, rfl⟩ := zpr hE
        exact y_iret k129_118 rfl
      · rw [if_neg c152] at hE
        refine y_ifF 111 k129_98 (by decide) c152 ?_
        refine y_aload_n k129_101 rfl rfl ?_
        refine y_getR k129_102 fk_0_57 sh0 rfl ?_
        refine y_getI k129_105 fk_0_283 sh186 rfl ?_
        refine y_goto (tgt := 118) k129_108 (by decide) ?_
        obtain ⟨rfl, rfl⟩ := zpr hE
        exact y_iret k129_118 rfl
    · rw [if_neg c153] at hE
      refine y_ifF 23 k129_17 (by decide) c153 ?_
      refine y_bipush (v := (-3)) k129_20 b8_m3 ?_
      obtain ⟨rfl, rfl⟩ := zpr hE
      exact y_iret k129_22 rfl
  · rw [if_neg c154] at hE
    refine y_ifF 11 k129_5 (by decide) c154 ?_
    refine y_bipush (v := (-2)) k129_8 b8_m2 ?_
    obtain ⟨rfl, rfl⟩ := zpr hE
    exact y_iret k129_10 rfl
-- AdjectiveCoupons$Text.readClause
def f23_68 (K : Nat) (o1 : Nat) (x2 : Int32) (x3 : Int32) (g : zS) : Option (Int32 × zS) := zbd (f41 K o1 x2 x3 g) fun _ g162 => some (1, g162)
def f23 (K : Nat) (o1 : Nat) (g : zS) : Option (Int32 × zS) := zbd (f24 K  g) fun r166 g165 => if r166 = (-1) then some (0, g165) else (zbd (f36 K o1 r166 g165) fun r169 g168 => if ¬ r169 = 0 then zbd (f20 K  g168) fun _ g171 => if ¬ r166 = 6 then zbd (f40 K r166 g171) fun r175 g174 => if r175 = (-1) then f23_68 K o1 r166 0 g174 else (zbd (f38 K r175 g174) fun r178 g177 => if ¬ r178 = (-1) then zbd (f20 K  g177) fun _ g180 => f23_68 K o1 r166 r178 g180 else (some (0, g177))) else (zbd (f37 K o1 g171) fun r186 g185 => if r186 = 0 ∨ r186 = 1 then some (r186, g185) else none) else (some (0, g168)))
theorem F23_68 {L : Nat} {xs : Nat → Int32} {d : Nat} (K : Nat) (o1 : Nat) (x2 : Int32) (x3 : Int32) (h1 : zTold o1) (g : zS) (r : Int32) (g' : zS) (hE : f23_68 K o1 x2 x3 g = some (r, g')) : zG2 L xs (d + 6) zm23 68 [none, some (.ref o1), some (.int x2), some (.int x3), none] [] g (some (.int r)) g' := by
  unfold f23_68 at hE
  refine y_aload_n k23_68 rfl rfl ?_
  refine y_iload_n k23_69 rfl ?_
  refine y_iload_n k23_70 rfl ?_
  obtain ⟨u163, g162, hc164, hE⟩ := zbd_some hE
  refine y_invVv (j := 41) (As := [.int x2, .int x3]) (rest := []) (N := zm41) (F41 K o1 x2 x3 h1 _ u163 g162 hc164 (d + 4)) k23_71 lk_1_67 zm41_get na41 rfl (Nat.le_of_ble_eq_true rfl) h1.1 (by decide) rfl ?_
  refine y_iconst (v := 1) k23_74 oi_1 ?_
  obtain ⟨rfl, rfl⟩ := zpr hE
  exact y_zret k23_75 rfl (by decide)
theorem F23 {L : Nat} {xs : Nat → Int32} (K : Nat) (o1 : Nat) (h1 : zTold o1) (g : zS) (r : Int32) (g' : zS) (hE : f23 K o1 g = some (r, g')) (d : Nat) : zE2 L xs (d + 7) 23 [.ref 1, .ref o1] g (some (.int r)) g' := by
  refine y_ev (n := 0) (d := d + 6) (ls := [some (.ref 1), some (.ref o1), none, none, none]) zm23_get (by decide) (Nat.le_of_ble_eq_true rfl) rfl ?_
  unfold f23 at hE
  refine y_aload_n k23_0 rfl rfl ?_
  obtain ⟨r166, g165, hc167, hE⟩ := zbd_some hE
  refine y_invVi (j := 24) (As := []) (rest := []) (N := zm24) (F24 K  _ r166 g165 hc167 (d + 0)) k23_1 lk_1_48 zm24_get na24 rfl (Nat.le_of_ble_eq_true rfl) sh1 (by decide) rfl ?_
  refine y_istore_n (ls2 := [some (.ref 1), some (.ref o1), some (.int r166), none, none]) k23_4 rfl (Nat.le_of_ble_eq_true rfl) rfl ?_
  refine y_iload_n k23_5 rfl ?_
  refine y_iconst (v := (-1)) k23_6 oi_m1 ?_
  by_cases c190 : r166 = (-1)
  · rw [if_pos c190] at hE
    refine y_icT (tgt := 18) k23_7 (by decide) c190 ?_
    refine y_iconst (v := 0) k23_18 oi_0 ?_
    obtain ⟨rfl, rfl⟩ := zpr hE
    exact y_zret k23_19 rfl (by decide)
  · rw [if_neg c190] at hE
    refine y_icF 18 k23_7 (by decide) c190 ?_
    refine y_aload_n k23_10 rfl rfl ?_
    refine y_iload_n k23_11 rfl ?_
    obtain ⟨r169, g168, hc170, hE⟩ := zbd_some hE
    refine y_invVi (j := 36) (As := [.int r166]) (rest := []) (N := zm36) (F36 K o1 r166 h1 _ r169 g168 hc170 (d + 4)) k23_12 lk_1_52 zm36_get na36 rfl (Nat.le_of_ble_eq_true rfl) h1.1 (by decide) rfl ?_
    by_cases c189 : ¬ r169 = 0
    · rw [if_pos c189] at hE
      refine y_ifT (tgt := 20) k23_15 (by decide) c189 ?_
      refine y_aload_n k23_20 rfl rfl ?_
      obtain ⟨u172, g171, hc173, hE⟩ := zbd_some hE
      refine y_invVv (j := 20) (As := []) (rest := []) (N := zm20) (F20 K  _ u172 g171 hc173 (d + 3)) k23_21 lk_1_31 zm20_get na20 rfl (Nat.le_of_ble_eq_true rfl) sh1 (by decide) rfl ?_
      refine y_iload_n k23_24 rfl ?_
      refine y_bipush (v := 6) k23_25 b8_6 ?_
      by_cases c188 : ¬ r166 = 6
      · rw [if_pos c188] at hE
        refine y_icT (tgt := 36) k23_27 (by decide) c188 ?_
        refine y_iconst (v := 0) k23_36 oi_0 ?_
        refine y_istore_n (ls2 := [some (.ref 1), some (.ref o1), some (.int r166), some (.int 0), none]) k23_37 rfl (Nat.le_of_ble_eq_true rfl) rfl ?_
        refine y_iload_n k23_38 rfl ?_
        obtain ⟨r175, g174, hc176, hE⟩ := zbd_some hE
        refine y_invSi (j := 40) (As := [.int r166]) (rest := []) (N := zm40) (F40 K r166 _ r175 g174 hc176 (d + 4)) k23_39 lk_1_61 zm40_get na40 rfl (Nat.le_of_ble_eq_true rfl) ?_
        refine y_istore (ls2 := [some (.ref 1), some (.ref o1), some (.int r166), some (.int 0), some (.int r175)]) k23_42 rfl (Nat.le_of_ble_eq_true rfl) rfl ?_
        refine y_iload k23_44 rfl ?_
        refine y_iconst (v := (-1)) k23_46 oi_m1 ?_
        by_cases c184 : r175 = (-1)
        · rw [if_pos c184] at hE
          refine y_icT (tgt := 68) k23_47 (by decide) c184 ?_
          exact y_weak (ls0 := [none, some (.ref o1), some (.int r166), some (.int 0), none]) ⟨rfl, rfl, rfl, rfl, rfl, trivial⟩ (F23_68 K o1 r166 0 h1 _ _ _ hE)
        · rw [if_neg c184] at hE
          refine y_icF 68 k23_47 (by decide) c184 ?_
          refine y_aload_n k23_50 rfl rfl ?_
          refine y_iload k23_51 rfl ?_
          obtain ⟨r178, g177, hc179, hE⟩ := zbd_some hE
          refine y_invVi (j := 38) (As := [.int r175]) (rest := []) (N := zm38) (F38 K r175 _ r178 g177 hc179 (d + 3)) k23_53 lk_1_64 zm38_get na38 rfl (Nat.le_of_ble_eq_true rfl) sh1 (by decide) rfl ?_
          refine y_istore_n (ls2 := [some (.ref 1), some (.ref o1), some (.int r166), some (.int r178), some (.int r175)]) k23_56 rfl (Nat.le_of_ble_eq_true rfl) rfl ?_
          refine y_iload_n k23_57 rfl ?_
          refine y_iconst (v := (-1)) k23_58 oi_m1 ?_
          by_cases c183 : ¬ r178 = (-1)
          · rw [if_pos c183] at hE
            refine y_icT (tgt := 64) k23_59 (by decide) c183 ?_
            refine y_aload_n k23_64 rfl rfl ?_
            obtain ⟨u181, g180, hc182, hE⟩ := zbd_some hE
            refine y_invVv (j := 20) (As := []) (rest := []) (N := zm20) (F20 K  _ u181 g180 hc182 (d + 3)) k23_65 lk_1_31 zm20_get na20 rfl (Nat.le_of_ble_eq_true rfl) sh1 (by decide) rfl ?_
            exact y_weak (ls0 := [none, some (.ref o1), some (.int r166), some (.int r178), none]) ⟨rfl, rfl, rfl, rfl, rfl, trivial⟩ (F23_68 K o1 r166 r178 h1 _ _ _ hE)
          · rw [if_neg c183] at hE
            refine y_icF 64 k23_59 (by decide) c183 ?_
            refine y_iconst (v := 0) k23_62 oi_0 ?_
            obtain ⟨rfl, rfl⟩ := zpr hE
            exact y_zret k23_63 rfl (by decide)
      · rw [if_neg c188] at hE
        refine y_icF 36 k23_27 (by decide) c188 ?_
        refine y_aload_n k23_30 rfl rfl ?_
        refine y_aload_n k23_31 rfl rfl ?_
        obtain ⟨r186, g185, hc187, hE⟩ := zbd_some hE
        refine y_invVi (j := 37) (As := [.ref o1]) (rest := []) (N := zm37) (F37 K o1 h1 _ r186 g185 hc187 (d + 2)) k23_32 lk_1_58 zm37_get na37 rfl (Nat.le_of_ble_eq_true rfl) sh1 (by decide) rfl ?_
        obtain ⟨hc, hE⟩ := zif_some hE
        obtain ⟨rfl, rfl⟩ := zpr hE
        exact y_zret k23_35 rfl hc
    · rw [if_neg c189] at hE
      refine y_ifF 20 k23_15 (by decide) c189 ?_
      refine y_iconst (v := 0) k23_18 oi_0 ?_
      obtain ⟨rfl, rfl⟩ := zpr hE
      exact y_zret k23_19 rfl (by decide)
-- AdjectiveCoupons$Text.read
def f19_14 (K : Nat) : Nat → Nat → zS → Option (Int32 × zS)
  | 0, _, _ => none
  | n + 1, o1, g => if 14 < (g 1 2) then some ((g 1 3), g) else (zbd (f23 K o1 g) fun r150 g149 => if ¬ r150 = 0 then if (g149 1 3) < (g149 1 1) then if (g149 1 2) = 14 then some ((g149 1 3), g149) else (zbd (f21 K 2 (g149 1 3) g149) fun r153 g152 => if r153 = 59 then zbd (f20 K  g152) fun _ g155 => (f19_14 K n) o1 (zup g155 1 2 ((g155 1 2) + 1)) else (some ((g152 1 3), g152))) else (some ((-1), g149)) else (some ((g149 1 3), g149)))
def f19 (K : Nat) (o1 : Nat) (g : zS) : Option (Int32 × zS) := zbd (f20 K  (zup g 1 4 0)) fun _ g163 => f19_14 K K o1 (zup g163 1 2 1)
theorem F19_14 {L : Nat} {xs : Nat → Int32} {d : Nat} (K : Nat) : ∀ (n : Nat) (o1 : Nat) (h1 : zTold o1) (g : zS) (r : Int32) (g' : zS) (hE : f19_14 K n o1 g = some (r, g')), zG2 L xs (d + 7) zm19 14 [some (.ref 1), some (.ref o1)] [] g (some (.int r)) g' := by
  intro n
  induction n with
  | zero => intro o1 h1 g r g' hE; cases hE
  | succ n ih =>
    intro o1 h1 g r g' hE
    rw [f19_14] at hE
    refine y_aload_n k19_14 rfl rfl ?_
    refine y_getI k19_15 fk_1_34 sh1 rfl ?_
    refine y_bipush (v := 14) k19_18 b8_14 ?_
    by_cases c162 : 14 < (g 1 2)
    · rw [if_pos c162] at hE
      refine y_icT (tgt := 96) k19_20 (by decide) c162 ?_
      refine y_aload_n k19_96 rfl rfl ?_
      refine y_getI k19_97 fk_1_41 sh1 rfl ?_
      obtain ⟨rfl, rfl⟩ := zpr hE
      exact y_iret k19_100 rfl
    · rw [if_neg c162] at hE
      refine y_icF 96 k19_20 (by decide) c162 ?_
      refine y_aload_n k19_23 rfl rfl ?_
      refine y_aload_n k19_24 rfl rfl ?_
      obtain ⟨r150, g149, hc151, hE⟩ := zbd_some hE
      refine y_invVi (j := 23) (As := [.ref o1]) (rest := []) (N := zm23) (F23 K o1 h1 _ r150 g149 hc151 (d + 0)) k19_25 lk_1_37 zm23_get na23 rfl (Nat.le_of_ble_eq_true rfl) sh1 (by decide) rfl ?_
      by_cases c161 : ¬ r150 = 0
      · rw [if_pos c161] at hE
        refine y_ifT (tgt := 36) k19_28 (by decide) c161 ?_
        refine y_aload_n k19_36 rfl rfl ?_
        refine y_getI k19_37 fk_1_41 sh1 rfl ?_
        refine y_aload_n k19_40 rfl rfl ?_
        refine y_getI k19_41 fk_1_20 sh1 rfl ?_
        by_cases c160 : (g149 1 3) < (g149 1 1)
        · rw [if_pos c160] at hE
          refine y_icT (tgt := 49) k19_44 (by decide) c160 ?_
          refine y_aload_n k19_49 rfl rfl ?_
          refine y_getI k19_50 fk_1_34 sh1 rfl ?_
          refine y_bipush (v := 14) k19_53 b8_14 ?_
          by_cases c159 : (g149 1 2) = 14
          · rw [if_pos c159] at hE
            refine y_icT (tgt := 74) k19_55 (by decide) c159 ?_
            refine y_aload_n k19_74 rfl rfl ?_
            refine y_getI k19_75 fk_1_41 sh1 rfl ?_
            obtain ⟨rfl, rfl⟩ := zpr hE
            exact y_iret k19_78 rfl
          · rw [if_neg c159] at hE
            refine y_icF 74 k19_55 (by decide) c159 ?_
            refine y_aload_n k19_58 rfl rfl ?_
            refine y_getR k19_59 fk_1_14 sh1 rfl ?_
            refine y_aload_n k19_62 rfl rfl ?_
            refine y_getI k19_63 fk_1_41 sh1 rfl ?_
            obtain ⟨r153, g152, hc154, hE⟩ := zbd_some hE
            refine y_invVi (j := 21) (As := [.int (g149 1 3)]) (rest := []) (N := zm21) (F21 K 2 (g149 1 3) rw2 _ r153 g152 hc154 (d + 6)) k19_66 lk_1_44 zm21_get na21 rfl (Nat.le_of_ble_eq_true rfl) sh2 (by decide) rfl ?_
            refine y_bipush (v := 59) k19_69 b8_59 ?_
            by_cases c158 : r153 = 59
            · rw [if_pos c158] at hE
              refine y_icT (tgt := 79) k19_71 (by decide) c158 ?_
              refine y_aload_n k19_79 rfl rfl ?_
              obtain ⟨u156, g155, hc157, hE⟩ := zbd_some hE
              refine y_invVv (j := 20) (As := []) (rest := []) (N := zm20) (F20 K  _ u156 g155 hc157 (d + 4)) k19_80 lk_1_31 zm20_get na20 rfl (Nat.le_of_ble_eq_true rfl) sh1 (by decide) rfl ?_
              refine y_aload_n k19_83 rfl rfl ?_
              refine y_dup k19_84 rfl ?_
              refine y_getI k19_85 fk_1_34 sh1 rfl ?_
              refine y_iconst (v := 1) k19_88 oi_1 ?_
              refine y_iadd k19_89 ?_
              refine y_putI k19_90 fk_1_34 sh1 rfl pi_1_2.1 pi_1_2.2 ?_
              refine y_goto (tgt := 14) k19_93 (by decide) ?_
              exact ih o1 h1 _ _ _ hE
            · rw [if_neg c158] at hE
              refine y_icF 79 k19_71 (by decide) c158 ?_
              refine y_aload_n k19_74 rfl rfl ?_
              refine y_getI k19_75 fk_1_41 sh1 rfl ?_
              obtain ⟨rfl, rfl⟩ := zpr hE
              exact y_iret k19_78 rfl
        · rw [if_neg c160] at hE
          refine y_icF 49 k19_44 (by decide) c160 ?_
          refine y_iconst (v := (-1)) k19_47 oi_m1 ?_
          obtain ⟨rfl, rfl⟩ := zpr hE
          exact y_iret k19_48 rfl
      · rw [if_neg c161] at hE
        refine y_ifF 36 k19_28 (by decide) c161 ?_
        refine y_aload_n k19_31 rfl rfl ?_
        refine y_getI k19_32 fk_1_41 sh1 rfl ?_
        obtain ⟨rfl, rfl⟩ := zpr hE
        exact y_iret k19_35 rfl
theorem F19 {L : Nat} {xs : Nat → Int32} (K : Nat) (o1 : Nat) (h1 : zTold o1) (g : zS) (r : Int32) (g' : zS) (hE : f19 K o1 g = some (r, g')) (d : Nat) : zE2 L xs (d + 8) 19 [.ref 1, .ref o1] g (some (.int r)) g' := by
  refine y_ev (n := 0) (d := d + 7) (ls := [some (.ref 1), some (.ref o1)]) zm19_get (by decide) (Nat.le_of_ble_eq_true rfl) rfl ?_
  unfold f19 at hE
  refine y_aload_n k19_0 rfl rfl ?_
  refine y_iconst (v := 0) k19_1 oi_0 ?_
  refine y_putI k19_2 fk_1_28 sh1 rfl pi_1_4.1 pi_1_4.2 ?_
  refine y_aload_n k19_5 rfl rfl ?_
  obtain ⟨u164, g163, hc165, hE⟩ := zbd_some hE
  refine y_invVv (j := 20) (As := []) (rest := []) (N := zm20) (F20 K  _ u164 g163 hc165 (d + 4)) k19_6 lk_1_31 zm20_get na20 rfl (Nat.le_of_ble_eq_true rfl) sh1 (by decide) rfl ?_
  refine y_aload_n k19_9 rfl rfl ?_
  refine y_iconst (v := 1) k19_10 oi_1 ?_
  refine y_putI k19_11 fk_1_34 sh1 rfl pi_1_2.1 pi_1_2.2 ?_
  exact F19_14 K K o1 h1 _ _ _ hE
-- AdjectiveCoupons.fault
def f16 (K : Nat) (g : zS) : Option (Int32 × zS) := zbd (f17 K 19 4 g) fun _ g107 => zbd (f19 K 19 g107) fun r111 g110 => some (r111, g110)
theorem F16 {L : Nat} {xs : Nat → Int32} (K : Nat) (g : zS) (r : Int32) (g' : zS) (hE : f16 K  g = some (r, g')) (d : Nat) : zE2 L xs (d + 9) 16 [.ref 0] g (some (.int r)) g' := by
  refine y_ev (n := 0) (d := d + 8) (ls := [some (.ref 0)]) zm16_get (by decide) (Nat.le_of_ble_eq_true rfl) rfl ?_
  unfold f16 at hE
  refine y_aload_n k16_0 rfl rfl ?_
  refine y_getR k16_1 fk_0_23 sh0 rfl ?_
  refine y_aload_n k16_4 rfl rfl ?_
  refine y_getR k16_5 fk_0_19 sh0 rfl ?_
  obtain ⟨u108, g107, hc109, hE⟩ := zbd_some hE
  refine y_invVv (j := 17) (As := [.ref 4]) (rest := []) (N := zm17) (F17 K 19 4 tol19 tol4 _ u108 g107 hc109 (d + 6)) k16_8 lk_0_80 zm17_get na17 rfl (Nat.le_of_ble_eq_true rfl) sh19 (by decide) rfl ?_
  refine y_aload_n k16_11 rfl rfl ?_
  refine y_getR k16_12 fk_0_10 sh0 rfl ?_
  refine y_aload_n k16_15 rfl rfl ?_
  refine y_getR k16_16 fk_0_23 sh0 rfl ?_
  obtain ⟨r111, g110, hc112, hE⟩ := zbd_some hE
  refine y_invVi (j := 19) (As := [.ref 19]) (rest := []) (N := zm19) (F19 K 19 tol19 _ r111 g110 hc112 (d + 0)) k16_19 lk_0_84 zm19_get na19 rfl (Nat.le_of_ble_eq_true rfl) sh1 (by decide) rfl ?_
  obtain ⟨rfl, rfl⟩ := zpr hE
  exact y_iret k16_22 rfl
-- AdjectiveCoupons.realm
def f43 (K : Nat) (g : zS) : Option (Int32 × zS) := zbd (f17 K 19 4 g) fun _ g117 => zbd (f19 K 19 g117) fun r121 g120 => if r121 = (-1) then zbd (f17 K 4 19 g120) fun _ g123 => zbd (f44 K 34 (g123 4 1) (2 * (g123 4 3)) g123) fun _ g126 => zbd (f46 K  g126) fun _ g129 => some (((zup (zup (zup g129 180 1 0) 186 4 0) 1 1 0) 1 2), (zup (zup (zup g129 180 1 0) 186 4 0) 1 1 0)) else (some ((-4), g120))
theorem F43 {L : Nat} {xs : Nat → Int32} (K : Nat) (g : zS) (r : Int32) (g' : zS) (hE : f43 K  g = some (r, g')) (d : Nat) : zE2 L xs (d + 9) 43 [.ref 0] g (some (.int r)) g' := by
  refine y_ev (n := 0) (d := d + 8) (ls := [some (.ref 0)]) zm43_get (by decide) (Nat.le_of_ble_eq_true rfl) rfl ?_
  unfold f43 at hE
  refine y_aload_n k43_0 rfl rfl ?_
  refine y_getR k43_1 fk_0_23 sh0 rfl ?_
  refine y_aload_n k43_4 rfl rfl ?_
  refine y_getR k43_5 fk_0_19 sh0 rfl ?_
  obtain ⟨u118, g117, hc119, hE⟩ := zbd_some hE
  refine y_invVv (j := 17) (As := [.ref 4]) (rest := []) (N := zm17) (F17 K 19 4 tol19 tol4 _ u118 g117 hc119 (d + 6)) k43_8 lk_0_80 zm17_get na17 rfl (Nat.le_of_ble_eq_true rfl) sh19 (by decide) rfl ?_
  refine y_aload_n k43_11 rfl rfl ?_
  refine y_getR k43_12 fk_0_10 sh0 rfl ?_
  refine y_aload_n k43_15 rfl rfl ?_
  refine y_getR k43_16 fk_0_23 sh0 rfl ?_
  obtain ⟨r121, g120, hc122, hE⟩ := zbd_some hE
  refine y_invVi (j := 19) (As := [.ref 19]) (rest := []) (N := zm19) (F19 K 19 tol19 _ r121 g120 hc122 (d + 0)) k43_19 lk_0_84 zm19_get na19 rfl (Nat.le_of_ble_eq_true rfl) sh1 (by decide) rfl ?_
  refine y_iconst (v := (-1)) k43_22 oi_m1 ?_
  by_cases c132 : r121 = (-1)
  · rw [if_pos c132] at hE
    refine y_icT (tgt := 29) k43_23 (by decide) c132 ?_
    refine y_aload_n k43_29 rfl rfl ?_
    refine y_getR k43_30 fk_0_19 sh0 rfl ?_
    refine y_aload_n k43_33 rfl rfl ?_
    refine y_getR k43_34 fk_0_23 sh0 rfl ?_
    obtain ⟨u124, g123, hc125, hE⟩ := zbd_some hE
    refine y_invVv (j := 17) (As := [.ref 19]) (rest := []) (N := zm17) (F17 K 4 19 tol4 tol19 _ u124 g123 hc125 (d + 6)) k43_37 lk_0_80 zm17_get na17 rfl (Nat.le_of_ble_eq_true rfl) sh4 (by decide) rfl ?_
    refine y_aload_n k43_40 rfl rfl ?_
    refine y_getR k43_41 fk_0_29 sh0 rfl ?_
    refine y_aload_n k43_44 rfl rfl ?_
    refine y_getR k43_45 fk_0_19 sh0 rfl ?_
    refine y_getI k43_48 fk_0_88 sh4 rfl ?_
    refine y_iconst (v := 2) k43_51 oi_2 ?_
    refine y_aload_n k43_52 rfl rfl ?_
    refine y_getR k43_53 fk_0_19 sh0 rfl ?_
    refine y_getI k43_56 fk_0_91 sh4 rfl ?_
    refine y_imul k43_59 ?_
    obtain ⟨u127, g126, hc128, hE⟩ := zbd_some hE
    refine y_invVv (j := 44) (As := [.int (g123 4 1), .int (2 * (g123 4 3))]) (rest := []) (N := zm44) (F44 K 34 (g123 4 1) (2 * (g123 4 3)) stt34 _ u127 g126 hc128 (d + 6)) k43_60 lk_0_94 zm44_get na44 rfl (Nat.le_of_ble_eq_true rfl) sh34 (by decide) rfl ?_
    refine y_aload_n k43_63 rfl rfl ?_
    refine y_getR k43_64 fk_0_36 sh0 rfl ?_
    obtain ⟨u130, g129, hc131, hE⟩ := zbd_some hE
    refine y_invVv (j := 46) (As := []) (rest := []) (N := zm46) (F46 K  _ u130 g129 hc131 (d + 7)) k43_67 lk_0_98 zm46_get na46 rfl (Nat.le_of_ble_eq_true rfl) sh47 (by decide) rfl ?_
    refine y_aload_n k43_70 rfl rfl ?_
    refine y_getR k43_71 fk_0_43 sh0 rfl ?_
    refine y_iconst (v := 0) k43_74 oi_0 ?_
    refine y_putI k43_75 fk_0_101 sh180 rfl pi_6_1.1 pi_6_1.2 ?_
    refine y_aload_n k43_78 rfl rfl ?_
    refine y_getR k43_79 fk_0_57 sh0 rfl ?_
    refine y_iconst (v := 0) k43_82 oi_0 ?_
    refine y_putI k43_83 fk_0_102 sh186 rfl pi_8_4.1 pi_8_4.2 ?_
    refine y_aload_n k43_86 rfl rfl ?_
    refine y_getR k43_87 fk_0_10 sh0 rfl ?_
    refine y_iconst (v := 0) k43_90 oi_0 ?_
    refine y_putI k43_91 fk_0_76 sh1 rfl pi_1_1.1 pi_1_1.2 ?_
    refine y_aload_n k43_94 rfl rfl ?_
    refine y_getR k43_95 fk_0_10 sh0 rfl ?_
    refine y_getI k43_98 fk_0_105 sh1 rfl ?_
    obtain ⟨rfl, rfl⟩ := zpr hE
    exact y_iret k43_101 rfl
  · rw [if_neg c132] at hE
    refine y_icF 29 k43_23 (by decide) c132 ?_
    refine y_bipush (v := (-4)) k43_26 b8_m4 ?_
    obtain ⟨rfl, rfl⟩ := zpr hE
    exact y_iret k43_28 rfl
