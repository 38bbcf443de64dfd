theorem zinN {a n : Nat} {i : Int32} (h : zlen a = n) (hi : zin i n) : zin i (zlen a) := by rw [h]; exact hi
theorem ln223 : zlen 223 = 803 := by decide +kernel
theorem ln224 : zlen 224 = 2 := by decide +kernel
theorem ln225 : zlen 225 = 160 := by decide +kernel
theorem ln226 : zlen 226 = 56 := by decide +kernel
theorem ln227 : zlen 227 = 10 := by decide +kernel
theorem ln228 : zlen 228 = 10 := by decide +kernel
theorem ln229 : zlen 229 = 18 := by decide +kernel
theorem ln230 : zlen 230 = 4 := by decide +kernel
theorem ln231 : zlen 231 = 4 := by decide +kernel
theorem ln232 : zlen 232 = 8 := by decide +kernel
theorem ln233 : zlen 233 = 48 := by decide +kernel
theorem ln234 : zlen 234 = 6 := by decide +kernel
theorem ln235 : zlen 235 = 8 := by decide +kernel
theorem ln236 : zlen 236 = 8 := by decide +kernel
theorem ln237 : zlen 237 = 8 := by decide +kernel
theorem ln238 : zlen 238 = 16 := by decide +kernel
-- AdjectiveCouponsModel.in
def f146 (K : Nat) (l0 : Int64) (l2 : Int64) (l4 : Int64) (g : zS) : Option (Int32 × zS) := if (lg_cmp l0 l2) < 0 then some (0, g) else if 0 < (lg_cmp l0 l4) then some (0, g) else (some (1, g))
theorem F146 {L : Nat} {xs : Nat → Int32} (K : Nat) (l0 : Int64) (l2 : Int64) (l4 : Int64) (g : zS) (r : Int32) (g' : zS) (hE : f146 K l0 l2 l4 g = some (r, g')) (d : Nat) : zE2 L xs (d + 1) 146 [.long l0, .long l2, .long l4] g (some (.int r)) g' := by
  refine y_ev (n := 0) (d := d + 0) (ls := [some (.long l0), none, some (.long l2), none, some (.long l4), none]) zm146_get (by decide) (Nat.le_of_ble_eq_true rfl) rfl ?_
  unfold f146 at hE
  refine y_lload_n k146_0 rfl ?_
  refine y_lload_n k146_1 rfl ?_
  refine y_lcmp k146_2 ?_
  by_cases c104 : (lg_cmp l0 l2) < 0
  · rw [if_pos c104] at hE
    refine y_ifT (tgt := 17) k146_3 (by decide) c104 ?_
    refine y_iconst (v := 0) k146_17 oi_0 ?_
    obtain ⟨rfl, rfl⟩ := zpr hE
    exact y_zret k146_18 rfl (by decide)
  · rw [if_neg c104] at hE
    refine y_ifF 17 k146_3 (by decide) c104 ?_
    refine y_lload_n k146_6 rfl ?_
    refine y_lload k146_7 rfl ?_
    refine y_lcmp k146_9 ?_
    by_cases c103 : 0 < (lg_cmp l0 l4)
    · rw [if_pos c103] at hE
      refine y_ifT (tgt := 17) k146_10 (by decide) c103 ?_
      refine y_iconst (v := 0) k146_17 oi_0 ?_
      obtain ⟨rfl, rfl⟩ := zpr hE
      exact y_zret k146_18 rfl (by decide)
    · rw [if_neg c103] at hE
      refine y_ifF 17 k146_10 (by decide) c103 ?_
      refine y_iconst (v := 1) k146_13 oi_1 ?_
      refine y_goto (tgt := 18) k146_14 (by decide) ?_
      obtain ⟨rfl, rfl⟩ := zpr hE
      exact y_zret k146_18 rfl (by decide)
-- AdjectiveCouponsModel.erase
def f147 (K : Nat) (g : zS) : Option (Int32 × zS) := some ((g 222 4), (zup g 222 4 0))
theorem F147 {L : Nat} {xs : Nat → Int32} (K : Nat) (g : zS) (r : Int32) (g' : zS) (hE : f147 K  g = some (r, g')) (d : Nat) : zE2 L xs (d + 1) 147 [.ref 222] g (some (.int r)) g' := by
  refine y_ev (n := 0) (d := d + 0) (ls := [some (.ref 222), none]) zm147_get (by decide) (Nat.le_of_ble_eq_true rfl) rfl ?_
  unfold f147 at hE
  refine y_aload_n k147_0 rfl rfl ?_
  refine y_getI k147_1 fk_10_69 sh222 rfl ?_
  refine y_istore_n (ls2 := [some (.ref 222), some (.int (g 222 4))]) k147_4 rfl (Nat.le_of_ble_eq_true rfl) rfl ?_
  refine y_aload_n k147_5 rfl rfl ?_
  refine y_iconst (v := 0) k147_6 oi_0 ?_
  refine y_putI k147_7 fk_10_69 sh222 rfl pi_10_4.1 pi_10_4.2 ?_
  refine y_iload_n k147_10 rfl ?_
  obtain ⟨rfl, rfl⟩ := zpr hE
  exact y_iret k147_11 rfl
-- AdjectiveCouponsModel.sort
def f150_16 (K : Nat) (x0 : Int32) (g : zS) : Option (Int32 × zS) := if x0 < 48 then some (0, g) else if 57 < x0 then some (0, g) else (some (2, g))
def f150 (K : Nat) (x0 : Int32) (g : zS) : Option (Int32 × zS) := if x0 < 97 then f150_16 K x0 g else if 122 < x0 then f150_16 K x0 g else (some (1, g))
theorem F150_16 {L : Nat} {xs : Nat → Int32} {d : Nat} (K : Nat) (x0 : Int32) (g : zS) (r : Int32) (g' : zS) (hE : f150_16 K x0 g = some (r, g')) : zG2 L xs (d + 0) zm150 16 [some (.int x0)] [] g (some (.int r)) g' := by
  unfold f150_16 at hE
  refine y_iload_n k150_16 rfl ?_
  refine y_bipush (v := 48) k150_17 b8_48 ?_
  by_cases c112 : x0 < 48
  · rw [if_pos c112] at hE
    refine y_icT (tgt := 32) k150_19 (by decide) c112 ?_
    refine y_iconst (v := 0) k150_32 oi_0 ?_
    obtain ⟨rfl, rfl⟩ := zpr hE
    exact y_iret k150_33 rfl
  · rw [if_neg c112] at hE
    refine y_icF 32 k150_19 (by decide) c112 ?_
    refine y_iload_n k150_22 rfl ?_
    refine y_bipush (v := 57) k150_23 b8_57 ?_
    by_cases c111 : 57 < x0
    · rw [if_pos c111] at hE
      refine y_icT (tgt := 32) k150_25 (by decide) c111 ?_
      refine y_iconst (v := 0) k150_32 oi_0 ?_
      obtain ⟨rfl, rfl⟩ := zpr hE
      exact y_iret k150_33 rfl
    · rw [if_neg c111] at hE
      refine y_icF 32 k150_25 (by decide) c111 ?_
      refine y_iconst (v := 2) k150_28 oi_2 ?_
      refine y_goto (tgt := 33) k150_29 (by decide) ?_
      obtain ⟨rfl, rfl⟩ := zpr hE
      exact y_iret k150_33 rfl
theorem F150 {L : Nat} {xs : Nat → Int32} (K : Nat) (x0 : Int32) (g : zS) (r : Int32) (g' : zS) (hE : f150 K x0 g = some (r, g')) (d : Nat) : zE2 L xs (d + 1) 150 [.int x0] g (some (.int r)) g' := by
  refine y_ev (n := 0) (d := d + 0) (ls := [some (.int x0)]) zm150_get (by decide) (Nat.le_of_ble_eq_true rfl) rfl ?_
  unfold f150 at hE
  refine y_iload_n k150_0 rfl ?_
  refine y_bipush (v := 97) k150_1 b8_97 ?_
  by_cases c114 : x0 < 97
  · rw [if_pos c114] at hE
    refine y_icT (tgt := 16) k150_3 (by decide) c114 ?_
    exact F150_16 K x0 _ _ _ hE
  · rw [if_neg c114] at hE
    refine y_icF 16 k150_3 (by decide) c114 ?_
    refine y_iload_n k150_6 rfl ?_
    refine y_bipush (v := 122) k150_7 b8_122 ?_
    by_cases c113 : 122 < x0
    · rw [if_pos c113] at hE
      refine y_icT (tgt := 16) k150_9 (by decide) c113 ?_
      exact F150_16 K x0 _ _ _ hE
    · rw [if_neg c113] at hE
      refine y_icF 16 k150_9 (by decide) c113 ?_
      refine y_iconst (v := 1) k150_12 oi_1 ?_
      refine y_goto (tgt := 33) k150_13 (by decide) ?_
      obtain ⟨rfl, rfl⟩ := zpr hE
      exact y_iret k150_33 rfl
-- AdjectiveCouponsModel.isWord
def f154_77 (K : Nat) (k23 : Int32 → Int32 → Int32 → Int32 → Int32 → zS → Option (Int32 × zS)) (x1 : Int32) (x2 : Int32) (x3 : Int32) (x5 : Int32) (xs0 : Int32) (g : zS) : Option (Int32 × zS) := k23 x1 x2 x3 xs0 (x5 + 1) g
def f154_68 (K : Nat) (k23 : Int32 → Int32 → Int32 → Int32 → Int32 → zS → Option (Int32 × zS)) (x1 : Int32) (x2 : Int32) (x3 : Int32) (x5 : Int32) (xs0 : Int32) (xs1 : Int32) (xs2 : Int32) (g : zS) : Option (Int32 × zS) := if ¬ xs0 = (xs1 + xs2) then f154_77 K k23 x1 x2 x3 x5 0 g else (f154_77 K k23 x1 x2 x3 x5 1 g)
def f154_23 (K : Nat) : Nat → Int32 → Int32 → Int32 → Int32 → Int32 → zS → Option (Int32 × zS)
  | 0, _, _, _, _, _, _ => none
  | n + 1, x1, x2, x3, x4, x5, g => if x4 = 0 then if x4 = 0 ∨ x4 = 1 then some (x4, g) else none else if x2 ≤ x5 then if x4 = 0 ∨ x4 = 1 then some (x4, g) else none else if zin ((g 222 23) + x5) 160 then if 6 ≤ x5 then f154_68 K (f154_23 K n) x1 x2 x3 x5 (g 225 ((g 222 23) + x5).toNatClampNeg) 96 x3 g else (f154_68 K (f154_23 K n) x1 x2 x3 x5 (g 225 ((g 222 23) + x5).toNatClampNeg) 96 ((x1 >>> ((5 * x5) &&& 31)) &&& 31) g) else none
def f154_18 (K : Nat) (x1 : Int32) (x2 : Int32) (x3 : Int32) (xs0 : Int32) (g : zS) : Option (Int32 × zS) := f154_23 K K x1 x2 x3 xs0 0 g
def f154 (K : Nat) (x1 : Int32) (x2 : Int32) (x3 : Int32) (g : zS) : Option (Int32 × zS) := if ¬ ((g 222 24) - (g 222 23)) = x2 then f154_18 K x1 x2 x3 0 g else (f154_18 K x1 x2 x3 1 g)
theorem F154_77 {L : Nat} {xs : Nat → Int32} {d : Nat} (K : Nat) (k23 : Int32 → Int32 → Int32 → Int32 → Int32 → zS → Option (Int32 × zS)) (hk23 : ∀ (x1 : Int32) (x2 : Int32) (x3 : Int32) (x4 : Int32) (x5 : Int32) (g : zS) (r : Int32) (g' : zS), k23 x1 x2 x3 x4 x5 g = some (r, g') → zG2 L xs (d + 0) zm154 23 [some (.ref 222), some (.int x1), some (.int x2), some (.int x3), some (.int x4), some (.int x5)] [] g (some (.int r)) g') (x1 : Int32) (x2 : Int32) (x3 : Int32) (x5 : Int32) (xs0 : Int32) (g : zS) (r : Int32) (g' : zS) (hE : f154_77 K k23 x1 x2 x3 x5 xs0 g = some (r, g')) : zG2 L xs (d + 0) zm154 77 [some (.ref 222), some (.int x1), some (.int x2), some (.int x3), none, some (.int x5)] [.int xs0] g (some (.int r)) g' := by
  unfold f154_77 at hE
  refine y_istore (ls2 := [some (.ref 222), some (.int x1), some (.int x2), some (.int x3), some (.int xs0), some (.int x5)]) k154_77 rfl (Nat.le_of_ble_eq_true rfl) rfl ?_
  refine y_iinc (v := (x5 + 1)) (ls2 := [some (.ref 222), some (.int x1), some (.int x2), some (.int x3), some (.int xs0), some (.int (x5 + 1))]) k154_79 rfl rfl (by rw [oi_1]) rfl ?_
  refine y_goto (tgt := 23) k154_82 (by decide) ?_
  exact hk23 x1 x2 x3 xs0 (x5 + 1) _ _ _ hE
theorem F154_68 {L : Nat} {xs : Nat → Int32} {d : Nat} (K : Nat) (k23 : Int32 → Int32 → Int32 → Int32 → Int32 → zS → Option (Int32 × zS)) (hk23 : ∀ (x1 : Int32) (x2 : Int32) (x3 : Int32) (x4 : Int32) (x5 : Int32) (g : zS) (r : Int32) (g' : zS), k23 x1 x2 x3 x4 x5 g = some (r, g') → zG2 L xs (d + 0) zm154 23 [some (.ref 222), some (.int x1), some (.int x2), some (.int x3), some (.int x4), some (.int x5)] [] g (some (.int r)) g') (x1 : Int32) (x2 : Int32) (x3 : Int32) (x5 : Int32) (xs0 : Int32) (xs1 : Int32) (xs2 : Int32) (g : zS) (r : Int32) (g' : zS) (hE : f154_68 K k23 x1 x2 x3 x5 xs0 xs1 xs2 g = some (r, g')) : zG2 L xs (d + 0) zm154 68 [some (.ref 222), some (.int x1), some (.int x2), some (.int x3), none, some (.int x5)] [.int xs2, .int xs1, .int xs0] g (some (.int r)) g' := by
  unfold f154_68 at hE
  refine y_iadd k154_68 ?_
  by_cases c120 : ¬ xs0 = (xs1 + xs2)
  · rw [if_pos c120] at hE
    refine y_icT (tgt := 76) k154_69 (by decide) c120 ?_
    refine y_iconst (v := 0) k154_76 oi_0 ?_
    exact F154_77 K k23 hk23 x1 x2 x3 x5 0 _ _ _ hE
  · rw [if_neg c120] at hE
    refine y_icF 76 k154_69 (by decide) c120 ?_
    refine y_iconst (v := 1) k154_72 oi_1 ?_
    refine y_goto (tgt := 77) k154_73 (by decide) ?_
    exact F154_77 K k23 hk23 x1 x2 x3 x5 1 _ _ _ hE
theorem F154_23 {L : Nat} {xs : Nat → Int32} {d : Nat} (K : Nat) : ∀ (n : Nat) (x1 : Int32) (x2 : Int32) (x3 : Int32) (x4 : Int32) (x5 : Int32) (g : zS) (r : Int32) (g' : zS) (hE : f154_23 K n x1 x2 x3 x4 x5 g = some (r, g')), zG2 L xs (d + 0) zm154 23 [some (.ref 222), some (.int x1), some (.int x2), some (.int x3), some (.int x4), some (.int x5)] [] g (some (.int r)) g' := by
  intro n
  induction n with
  | zero => intro x1 x2 x3 x4 x5  g r g' hE; cases hE
  | succ n ih =>
    intro x1 x2 x3 x4 x5  g r g' hE
    rw [f154_23] at hE
    refine y_iload k154_23 rfl ?_
    by_cases c123 : x4 = 0
    · rw [if_pos c123] at hE
      refine y_ifT (tgt := 85) k154_25 (by decide) c123 ?_
      refine y_iload k154_85 rfl ?_
      obtain ⟨hc, hE⟩ := zif_some hE
      obtain ⟨rfl, rfl⟩ := zpr hE
      exact y_zret k154_87 rfl hc
    · rw [if_neg c123] at hE
      refine y_ifF 85 k154_25 (by decide) c123 ?_
      refine y_iload k154_28 rfl ?_
      refine y_iload_n k154_30 rfl ?_
      by_cases c122 : x2 ≤ x5
      · rw [if_pos c122] at hE
        refine y_icT (tgt := 85) k154_31 (by decide) c122 ?_
        refine y_iload k154_85 rfl ?_
        obtain ⟨hc, hE⟩ := zif_some hE
        obtain ⟨rfl, rfl⟩ := zpr hE
        exact y_zret k154_87 rfl hc
      · rw [if_neg c122] at hE
        refine y_icF 85 k154_31 (by decide) c122 ?_
        refine y_aload_n k154_34 rfl rfl ?_
        refine y_getR k154_35 fk_10_17 sh222 rfl ?_
        refine y_aload_n k154_38 rfl rfl ?_
        refine y_getI k154_39 fk_10_75 sh222 rfl ?_
        refine y_iload k154_42 rfl ?_
        refine y_iadd k154_44 ?_
        obtain ⟨hc, hE⟩ := zif_some hE
        refine y_iald k154_45 ar225 (zinN ln225 hc) ?_
        refine y_bipush (v := 96) k154_46 b8_96 ?_
        refine y_iload k154_48 rfl ?_
        refine y_bipush (v := 6) k154_50 b8_6 ?_
        by_cases c121 : 6 ≤ x5
        · rw [if_pos c121] at hE
          refine y_icT (tgt := 67) k154_52 (by decide) c121 ?_
          refine y_iload_n k154_67 rfl ?_
          exact y_weak (ls0 := [some (.ref 222), some (.int x1), some (.int x2), some (.int x3), none, some (.int x5)]) ⟨rfl, rfl, rfl, rfl, rfl, rfl, trivial⟩ (F154_68 K (f154_23 K n) ih x1 x2 x3 x5 (g 225 ((g 222 23) + x5).toNatClampNeg) 96 x3 _ _ _ hE)
        · rw [if_neg c121] at hE
          refine y_icF 67 k154_52 (by decide) c121 ?_
          refine y_iload_n k154_55 rfl ?_
          refine y_iconst (v := 5) k154_56 oi_5 ?_
          refine y_iload k154_57 rfl ?_
          refine y_imul k154_59 ?_
          refine y_ishr k154_60 ?_
          refine y_bipush (v := 31) k154_61 b8_31 ?_
          refine y_iand k154_63 ?_
          refine y_goto (tgt := 68) k154_64 (by decide) ?_
          exact y_weak (ls0 := [some (.ref 222), some (.int x1), some (.int x2), some (.int x3), none, some (.int x5)]) ⟨rfl, rfl, rfl, rfl, rfl, rfl, trivial⟩ (F154_68 K (f154_23 K n) ih x1 x2 x3 x5 (g 225 ((g 222 23) + x5).toNatClampNeg) 96 ((x1 >>> ((5 * x5) &&& 31)) &&& 31) _ _ _ hE)
theorem F154_18 {L : Nat} {xs : Nat → Int32} {d : Nat} (K : Nat) (x1 : Int32) (x2 : Int32) (x3 : Int32) (xs0 : Int32) (g : zS) (r : Int32) (g' : zS) (hE : f154_18 K x1 x2 x3 xs0 g = some (r, g')) : zG2 L xs (d + 0) zm154 18 [some (.ref 222), some (.int x1), some (.int x2), some (.int x3), none, none] [.int xs0] g (some (.int r)) g' := by
  unfold f154_18 at hE
  refine y_istore (ls2 := [some (.ref 222), some (.int x1), some (.int x2), some (.int x3), some (.int xs0), none]) k154_18 rfl (Nat.le_of_ble_eq_true rfl) rfl ?_
  refine y_iconst (v := 0) k154_20 oi_0 ?_
  refine y_istore (ls2 := [some (.ref 222), some (.int x1), some (.int x2), some (.int x3), some (.int xs0), some (.int 0)]) k154_21 rfl (Nat.le_of_ble_eq_true rfl) rfl ?_
  exact F154_23 K K x1 x2 x3 xs0 0 _ _ _ hE
theorem F154 {L : Nat} {xs : Nat → Int32} (K : Nat) (x1 : Int32) (x2 : Int32) (x3 : Int32) (g : zS) (r : Int32) (g' : zS) (hE : f154 K x1 x2 x3 g = some (r, g')) (d : Nat) : zE2 L xs (d + 1) 154 [.ref 222, .int x1, .int x2, .int x3] g (some (.int r)) g' := by
  refine y_ev (n := 0) (d := d + 0) (ls := [some (.ref 222), some (.int x1), some (.int x2), some (.int x3), none, none]) zm154_get (by decide) (Nat.le_of_ble_eq_true rfl) rfl ?_
  unfold f154 at hE
  refine y_aload_n k154_0 rfl rfl ?_
  refine y_getI k154_1 fk_10_82 sh222 rfl ?_
  refine y_aload_n k154_4 rfl rfl ?_
  refine y_getI k154_5 fk_10_75 sh222 rfl ?_
  refine y_isub k154_8 ?_
  refine y_iload_n k154_9 rfl ?_
  by_cases c124 : ¬ ((g 222 24) - (g 222 23)) = x2
  · rw [if_pos c124] at hE
    refine y_icT (tgt := 17) k154_10 (by decide) c124 ?_
    refine y_iconst (v := 0) k154_17 oi_0 ?_
    exact F154_18 K x1 x2 x3 0 _ _ _ hE
  · rw [if_neg c124] at hE
    refine y_icF 17 k154_10 (by decide) c124 ?_
    refine y_iconst (v := 1) k154_13 oi_1 ?_
    refine y_goto (tgt := 18) k154_14 (by decide) ?_
    exact F154_18 K x1 x2 x3 1 _ _ _ hE
-- AdjectiveCouponsModel.addWord
def f162 (K : Nat) (x1 : Int32) (x2 : Int32) (g : zS) : Option (Unit × zS) := if zin (g 222 9) 10 then if zin ((zup g 227 (g 222 9).toNatClampNeg x1) 222 9) 10 then some ((), (zup (zup (zup g 227 (g 222 9).toNatClampNeg x1) 228 ((zup g 227 (g 222 9).toNatClampNeg x1) 222 9).toNatClampNeg x2) 222 9 (((zup (zup g 227 (g 222 9).toNatClampNeg x1) 228 ((zup g 227 (g 222 9).toNatClampNeg x1) 222 9).toNatClampNeg x2) 222 9) + 1))) else none else none
theorem F162 {L : Nat} {xs : Nat → Int32} (K : Nat) (x1 : Int32) (x2 : Int32) (g : zS) (r : Unit) (g' : zS) (hE : f162 K x1 x2 g = some (r, g')) (d : Nat) : zE2 L xs (d + 1) 162 [.ref 222, .int x1, .int x2] g none g' := by
  refine y_ev (n := 0) (d := d + 0) (ls := [some (.ref 222), some (.int x1), some (.int x2)]) zm162_get (by decide) (Nat.le_of_ble_eq_true rfl) rfl ?_
  unfold f162 at hE
  refine y_aload_n k162_0 rfl rfl ?_
  refine y_getR k162_1 fk_10_23 sh222 rfl ?_
  refine y_aload_n k162_4 rfl rfl ?_
  refine y_getI k162_5 fk_10_149 sh222 rfl ?_
  refine y_iload_n k162_8 rfl ?_
  obtain ⟨hc, hE⟩ := zif_some hE
  refine y_iast k162_9 ar227 (zinN ln227 hc) ?_
  refine y_aload_n k162_10 rfl rfl ?_
  refine y_getR k162_11 fk_10_26 sh222 rfl ?_
  refine y_aload_n k162_14 rfl rfl ?_
  refine y_getI k162_15 fk_10_149 sh222 rfl ?_
  refine y_iload_n k162_18 rfl ?_
  obtain ⟨hc, hE⟩ := zif_some hE
  refine y_iast k162_19 ar228 (zinN ln228 hc) ?_
  refine y_aload_n k162_20 rfl rfl ?_
  refine y_dup k162_21 rfl ?_
  refine y_getI k162_22 fk_10_149 sh222 rfl ?_
  refine y_iconst (v := 1) k162_25 oi_1 ?_
  refine y_iadd k162_26 ?_
  refine y_putI k162_27 fk_10_149 sh222 rfl pi_10_9.1 pi_10_9.2 ?_
  obtain ⟨rfl, rfl⟩ := zpr hE
  exact y_vret k162_30 rfl
-- AdjectiveCouponsModel.addOne
def f163 (K : Nat) (x1 : Int32) (x2 : Int32) (g : zS) : Option (Unit × zS) := if zin (g 222 14) 4 then if zin ((zup g 230 (g 222 14).toNatClampNeg x1) 222 14) 4 then some ((), (zup (zup (zup g 230 (g 222 14).toNatClampNeg x1) 231 ((zup g 230 (g 222 14).toNatClampNeg x1) 222 14).toNatClampNeg x2) 222 14 (((zup (zup g 230 (g 222 14).toNatClampNeg x1) 231 ((zup g 230 (g 222 14).toNatClampNeg x1) 222 14).toNatClampNeg x2) 222 14) + 1))) else none else none
theorem F163 {L : Nat} {xs : Nat → Int32} (K : Nat) (x1 : Int32) (x2 : Int32) (g : zS) (r : Unit) (g' : zS) (hE : f163 K x1 x2 g = some (r, g')) (d : Nat) : zE2 L xs (d + 1) 163 [.ref 222, .int x1, .int x2] g none g' := by
  refine y_ev (n := 0) (d := d + 0) (ls := [some (.ref 222), some (.int x1), some (.int x2)]) zm163_get (by decide) (Nat.le_of_ble_eq_true rfl) rfl ?_
  unfold f163 at hE
  refine y_aload_n k163_0 rfl rfl ?_
  refine y_getR k163_1 fk_10_32 sh222 rfl ?_
  refine y_aload_n k163_4 rfl rfl ?_
  refine y_getI k163_5 fk_10_155 sh222 rfl ?_
  refine y_iload_n k163_8 rfl ?_
  obtain ⟨hc, hE⟩ := zif_some hE
  refine y_iast k163_9 ar230 (zinN ln230 hc) ?_
  refine y_aload_n k163_10 rfl rfl ?_
  refine y_getR k163_11 fk_10_35 sh222 rfl ?_
  refine y_aload_n k163_14 rfl rfl ?_
  refine y_getI k163_15 fk_10_155 sh222 rfl ?_
  refine y_iload_n k163_18 rfl ?_
  obtain ⟨hc, hE⟩ := zif_some hE
  refine y_iast k163_19 ar231 (zinN ln231 hc) ?_
  refine y_aload_n k163_20 rfl rfl ?_
  refine y_dup k163_21 rfl ?_
  refine y_getI k163_22 fk_10_155 sh222 rfl ?_
  refine y_iconst (v := 1) k163_25 oi_1 ?_
  refine y_iadd k163_26 ?_
  refine y_putI k163_27 fk_10_155 sh222 rfl pi_10_14.1 pi_10_14.2 ?_
  obtain ⟨rfl, rfl⟩ := zpr hE
  exact y_vret k163_30 rfl
-- AdjectiveCouponsModel.addChange
def f164_2 (K : Nat) : Nat → Int32 → Int32 → zS → Option (Unit × zS)
  | 0, _, _, _ => none
  | n + 1, x1, x2, g => if 3 ≤ x2 then some ((), (zup g 222 11 ((g 222 11) + 1))) else if zin ((x1 + 1) + x2) 56 then if zin ((3 * (g 222 11)) + x2) 18 then (f164_2 K n) x1 (x2 + 1) (zup g 229 ((3 * (g 222 11)) + x2).toNatClampNeg (g 226 ((x1 + 1) + x2).toNatClampNeg)) else none else none
def f164 (K : Nat) (x1 : Int32) (g : zS) : Option (Unit × zS) := f164_2 K K x1 0 g
theorem F164_2 {L : Nat} {xs : Nat → Int32} {d : Nat} (K : Nat) : ∀ (n : Nat) (x1 : Int32) (x2 : Int32) (g : zS) (r : Unit) (g' : zS) (hE : f164_2 K n x1 x2 g = some (r, g')), zG2 L xs (d + 0) zm164 2 [some (.ref 222), some (.int x1), some (.int x2)] [] g none g' := by
  intro n
  induction n with
  | zero => intro x1 x2  g r g' hE; cases hE
  | succ n ih =>
    intro x1 x2  g r g' hE
    rw [f164_2] at hE
    refine y_iload_n k164_2 rfl ?_
    refine y_iconst (v := 3) k164_3 oi_3 ?_
    by_cases c104 : 3 ≤ x2
    · rw [if_pos c104] at hE
      refine y_icT (tgt := 36) k164_4 (by decide) c104 ?_
      refine y_aload_n k164_36 rfl rfl ?_
      refine y_dup k164_37 rfl ?_
      refine y_getI k164_38 fk_10_152 sh222 rfl ?_
      refine y_iconst (v := 1) k164_41 oi_1 ?_
      refine y_iadd k164_42 ?_
      refine y_putI k164_43 fk_10_152 sh222 rfl pi_10_11.1 pi_10_11.2 ?_
      obtain ⟨rfl, rfl⟩ := zpr hE
      exact y_vret k164_46 rfl
    · rw [if_neg c104] at hE
      refine y_icF 36 k164_4 (by decide) c104 ?_
      refine y_aload_n k164_7 rfl rfl ?_
      refine y_getR k164_8 fk_10_29 sh222 rfl ?_
      refine y_iconst (v := 3) k164_11 oi_3 ?_
      refine y_aload_n k164_12 rfl rfl ?_
      refine y_getI k164_13 fk_10_152 sh222 rfl ?_
      refine y_imul k164_16 ?_
      refine y_iload_n k164_17 rfl ?_
      refine y_iadd k164_18 ?_
      refine y_aload_n k164_19 rfl rfl ?_
      refine y_getR k164_20 fk_10_20 sh222 rfl ?_
      refine y_iload_n k164_23 rfl ?_
      refine y_iconst (v := 1) k164_24 oi_1 ?_
      refine y_iadd k164_25 ?_
      refine y_iload_n k164_26 rfl ?_
      refine y_iadd k164_27 ?_
      obtain ⟨hc, hE⟩ := zif_some hE
      refine y_iald k164_28 ar226 (zinN ln226 hc) ?_
      obtain ⟨hc, hE⟩ := zif_some hE
      refine y_iast k164_29 ar229 (zinN ln229 hc) ?_
      refine y_iinc (v := (x2 + 1)) (ls2 := [some (.ref 222), some (.int x1), some (.int (x2 + 1))]) k164_30 rfl rfl (by rw [oi_1]) rfl ?_
      refine y_goto (tgt := 2) k164_33 (by decide) ?_
      exact ih x1 (x2 + 1) _ _ _ hE
theorem F164 {L : Nat} {xs : Nat → Int32} (K : Nat) (x1 : Int32) (g : zS) (r : Unit) (g' : zS) (hE : f164 K x1 g = some (r, g')) (d : Nat) : zE2 L xs (d + 1) 164 [.ref 222, .int x1] g none g' := by
  refine y_ev (n := 0) (d := d + 0) (ls := [some (.ref 222), some (.int x1), none]) zm164_get (by decide) (Nat.le_of_ble_eq_true rfl) rfl ?_
  unfold f164 at hE
  refine y_iconst (v := 0) k164_0 oi_0 ?_
  refine y_istore_n (ls2 := [some (.ref 222), some (.int x1), some (.int 0)]) k164_1 rfl (Nat.le_of_ble_eq_true rfl) rfl ?_
  exact F164_2 K K x1 0 _ _ _ hE
-- AdjectiveCouponsModel.clear
def f165 (K : Nat) (g : zS) : Option (Unit × zS) := some ((), (zup (zup (zup (zup (zup g 222 9 0) 222 11 0) 222 14 0) 222 15 9) 222 16 0))
theorem F165 {L : Nat} {xs : Nat → Int32} (K : Nat) (g : zS) (r : Unit) (g' : zS) (hE : f165 K  g = some (r, g')) (d : Nat) : zE2 L xs (d + 1) 165 [.ref 222] g none g' := by
  refine y_ev (n := 0) (d := d + 0) (ls := [some (.ref 222)]) zm165_get (by decide) (Nat.le_of_ble_eq_true rfl) rfl ?_
  unfold f165 at hE
  refine y_aload_n k165_0 rfl rfl ?_
  refine y_iconst (v := 0) k165_1 oi_0 ?_
  refine y_putI k165_2 fk_10_149 sh222 rfl pi_10_9.1 pi_10_9.2 ?_
  refine y_aload_n k165_5 rfl rfl ?_
  refine y_iconst (v := 0) k165_6 oi_0 ?_
  refine y_putI k165_7 fk_10_152 sh222 rfl pi_10_11.1 pi_10_11.2 ?_
  refine y_aload_n k165_10 rfl rfl ?_
  refine y_iconst (v := 0) k165_11 oi_0 ?_
  refine y_putI k165_12 fk_10_155 sh222 rfl pi_10_14.1 pi_10_14.2 ?_
  refine y_aload_n k165_15 rfl rfl ?_
  refine y_bipush (v := 9) k165_16 b8_9 ?_
  refine y_putI k165_18 fk_10_38 sh222 rfl pi_10_15.1 pi_10_15.2 ?_
  refine y_aload_n k165_21 rfl rfl ?_
  refine y_iconst (v := 0) k165_22 oi_0 ?_
  refine y_putI k165_23 fk_10_162 sh222 rfl pi_10_16.1 pi_10_16.2 ?_
  obtain ⟨rfl, rfl⟩ := zpr hE
  exact y_vret k165_26 rfl
-- AdjectiveCouponsModel.kindIn
def f168_115 (K : Nat) (k13 : Int32 → Int32 → Int32 → Int32 → Int32 → zS → Option (Int32 × zS)) (x1 : Int32) (x2 : Int32) (x3 : Int32) (x5 : Int32) (xs0 : Int32) (g : zS) : Option (Int32 × zS) := k13 x1 x2 x3 xs0 (x5 + 1) g
def f168_93 (K : Nat) (k13 : Int32 → Int32 → Int32 → Int32 → Int32 → zS → Option (Int32 × zS)) (x1 : Int32) (x2 : Int32) (x4 : Int32) (x5 : Int32) (x6 : Int32) (xs0 : Int32) (g : zS) : Option (Int32 × zS) := if x6 = 0 then f168_115 K k13 x1 x2 xs0 x5 x4 g else if zin ((3 * x5) + 2) 18 then f168_115 K k13 x1 x2 xs0 x5 (g 229 ((3 * x5) + 2).toNatClampNeg) g else none
def f168_71 (K : Nat) (k13 : Int32 → Int32 → Int32 → Int32 → Int32 → zS → Option (Int32 × zS)) (x1 : Int32) (x2 : Int32) (x3 : Int32) (x4 : Int32) (x5 : Int32) (xs0 : Int32) (g : zS) : Option (Int32 × zS) := if xs0 = 0 then f168_93 K k13 x1 x2 x4 x5 xs0 x3 g else if zin ((3 * x5) + 1) 18 then f168_93 K k13 x1 x2 x4 x5 xs0 (g 229 ((3 * x5) + 1).toNatClampNeg) g else none
def f168_70 (K : Nat) (k13 : Int32 → Int32 → Int32 → Int32 → Int32 → zS → Option (Int32 × zS)) (x1 : Int32) (x2 : Int32) (x3 : Int32) (x4 : Int32) (x5 : Int32) (g : zS) : Option (Int32 × zS) := f168_71 K k13 x1 x2 x3 x4 x5 0 g
def f168_13 (K : Nat) : Nat → Int32 → Int32 → Int32 → Int32 → Int32 → zS → Option (Int32 × zS)
  | 0, _, _, _, _, _, _ => none
  | n + 1, x1, x2, x3, x4, x5, g => if (g 222 11) ≤ x5 then some (x3, g) else if zin (3 * x5) 18 then if ¬ (g 229 (3 * x5).toNatClampNeg) = x1 then f168_70 K (f168_13 K n) x1 x2 x3 x4 x5 g else if zin ((3 * x5) + 2) 18 then if x2 < (g 229 ((3 * x5) + 2).toNatClampNeg) then f168_70 K (f168_13 K n) x1 x2 x3 x4 x5 g else if zin ((3 * x5) + 2) 18 then if (g 229 ((3 * x5) + 2).toNatClampNeg) < x4 then f168_70 K (f168_13 K n) x1 x2 x3 x4 x5 g else (f168_71 K (f168_13 K n) x1 x2 x3 x4 x5 1 g) else none else none else none
def f168 (K : Nat) (x1 : Int32) (x2 : Int32) (g : zS) : Option (Int32 × zS) := if zin x1 10 then f168_13 K K x1 x2 (g 227 x1.toNatClampNeg) (-1) 0 g else none
theorem F168_115 {L : Nat} {xs : Nat → Int32} {d : Nat} (K : Nat) (k13 : Int32 → Int32 → Int32 → Int32 → Int32 → zS → Option (Int32 × zS)) (hk13 : ∀ (x1 : Int32) (x2 : Int32) (x3 : Int32) (x4 : Int32) (x5 : Int32) (g : zS) (r : Int32) (g' : zS), k13 x1 x2 x3 x4 x5 g = some (r, g') → zG2 L xs (d + 0) zm168 13 [some (.ref 222), some (.int x1), some (.int x2), some (.int x3), some (.int x4), some (.int x5), none] [] g (some (.int r)) g') (x1 : Int32) (x2 : Int32) (x3 : Int32) (x5 : Int32) (xs0 : Int32) (g : zS) (r : Int32) (g' : zS) (hE : f168_115 K k13 x1 x2 x3 x5 xs0 g = some (r, g')) : zG2 L xs (d + 0) zm168 115 [some (.ref 222), some (.int x1), some (.int x2), some (.int x3), none, some (.int x5), none] [.int xs0] g (some (.int r)) g' := by
  unfold f168_115 at hE
  refine y_istore (ls2 := [some (.ref 222), some (.int x1), some (.int x2), some (.int x3), some (.int xs0), some (.int x5), none]) k168_115 rfl (Nat.le_of_ble_eq_true rfl) rfl ?_
  refine y_iinc (v := (x5 + 1)) (ls2 := [some (.ref 222), some (.int x1), some (.int x2), some (.int x3), some (.int xs0), some (.int (x5 + 1)), none]) k168_117 rfl rfl (by rw [oi_1]) rfl ?_
  refine y_goto (tgt := 13) k168_120 (by decide) ?_
  exact hk13 x1 x2 x3 xs0 (x5 + 1) _ _ _ hE
theorem F168_93 {L : Nat} {xs : Nat → Int32} {d : Nat} (K : Nat) (k13 : Int32 → Int32 → Int32 → Int32 → Int32 → zS → Option (Int32 × zS)) (hk13 : ∀ (x1 : Int32) (x2 : Int32) (x3 : Int32) (x4 : Int32) (x5 : Int32) (g : zS) (r : Int32) (g' : zS), k13 x1 x2 x3 x4 x5 g = some (r, g') → zG2 L xs (d + 0) zm168 13 [some (.ref 222), some (.int x1), some (.int x2), some (.int x3), some (.int x4), some (.int x5), none] [] g (some (.int r)) g') (x1 : Int32) (x2 : Int32) (x4 : Int32) (x5 : Int32) (x6 : Int32) (xs0 : Int32) (g : zS) (r : Int32) (g' : zS) (hE : f168_93 K k13 x1 x2 x4 x5 x6 xs0 g = some (r, g')) : zG2 L xs (d + 0) zm168 93 [some (.ref 222), some (.int x1), some (.int x2), none, some (.int x4), some (.int x5), some (.int x6)] [.int xs0] g (some (.int r)) g' := by
  unfold f168_93 at hE
  refine y_istore_n (ls2 := [some (.ref 222), some (.int x1), some (.int x2), some (.int xs0), some (.int x4), some (.int x5), some (.int x6)]) k168_93 rfl (Nat.le_of_ble_eq_true rfl) rfl ?_
  refine y_iload k168_94 rfl ?_
  by_cases c128 : x6 = 0
  · rw [if_pos c128] at hE
    refine y_ifT (tgt := 113) k168_96 (by decide) c128 ?_
    refine y_iload k168_113 rfl ?_
    exact y_weak (ls0 := [some (.ref 222), some (.int x1), some (.int x2), some (.int xs0), none, some (.int x5), none]) ⟨rfl, rfl, rfl, rfl, rfl, rfl, rfl, trivial⟩ (F168_115 K k13 hk13 x1 x2 xs0 x5 x4 _ _ _ hE)
  · rw [if_neg c128] at hE
    refine y_ifF 113 k168_96 (by decide) c128 ?_
    refine y_aload_n k168_99 rfl rfl ?_
    refine y_getR k168_100 fk_10_29 sh222 rfl ?_
    refine y_iconst (v := 3) k168_103 oi_3 ?_
    refine y_iload k168_104 rfl ?_
    refine y_imul k168_106 ?_
    refine y_iconst (v := 2) k168_107 oi_2 ?_
    refine y_iadd k168_108 ?_
    obtain ⟨hc, hE⟩ := zif_some hE
    refine y_iald k168_109 ar229 (zinN ln229 hc) ?_
    refine y_goto (tgt := 115) k168_110 (by decide) ?_
    exact y_weak (ls0 := [some (.ref 222), some (.int x1), some (.int x2), some (.int xs0), none, some (.int x5), none]) ⟨rfl, rfl, rfl, rfl, rfl, rfl, rfl, trivial⟩ (F168_115 K k13 hk13 x1 x2 xs0 x5 (g 229 ((3 * x5) + 2).toNatClampNeg) _ _ _ hE)
theorem F168_71 {L : Nat} {xs : Nat → Int32} {d : Nat} (K : Nat) (k13 : Int32 → Int32 → Int32 → Int32 → Int32 → zS → Option (Int32 × zS)) (hk13 : ∀ (x1 : Int32) (x2 : Int32) (x3 : Int32) (x4 : Int32) (x5 : Int32) (g : zS) (r : Int32) (g' : zS), k13 x1 x2 x3 x4 x5 g = some (r, g') → zG2 L xs (d + 0) zm168 13 [some (.ref 222), some (.int x1), some (.int x2), some (.int x3), some (.int x4), some (.int x5), none] [] g (some (.int r)) g') (x1 : Int32) (x2 : Int32) (x3 : Int32) (x4 : Int32) (x5 : Int32) (xs0 : Int32) (g : zS) (r : Int32) (g' : zS) (hE : f168_71 K k13 x1 x2 x3 x4 x5 xs0 g = some (r, g')) : zG2 L xs (d + 0) zm168 71 [some (.ref 222), some (.int x1), some (.int x2), some (.int x3), some (.int x4), some (.int x5), none] [.int xs0] g (some (.int r)) g' := by
  unfold f168_71 at hE
  refine y_istore (ls2 := [some (.ref 222), some (.int x1), some (.int x2), some (.int x3), some (.int x4), some (.int x5), some (.int xs0)]) k168_71 rfl (Nat.le_of_ble_eq_true rfl) rfl ?_
  refine y_iload k168_73 rfl ?_
  by_cases c129 : xs0 = 0
  · rw [if_pos c129] at hE
    refine y_ifT (tgt := 92) k168_75 (by decide) c129 ?_
    refine y_iload_n k168_92 rfl ?_
    exact y_weak (ls0 := [some (.ref 222), some (.int x1), some (.int x2), none, some (.int x4), some (.int x5), some (.int xs0)]) ⟨rfl, rfl, rfl, rfl, rfl, rfl, rfl, trivial⟩ (F168_93 K k13 hk13 x1 x2 x4 x5 xs0 x3 _ _ _ hE)
  · rw [if_neg c129] at hE
    refine y_ifF 92 k168_75 (by decide) c129 ?_
    refine y_aload_n k168_78 rfl rfl ?_
    refine y_getR k168_79 fk_10_29 sh222 rfl ?_
    refine y_iconst (v := 3) k168_82 oi_3 ?_
    refine y_iload k168_83 rfl ?_
    refine y_imul k168_85 ?_
    refine y_iconst (v := 1) k168_86 oi_1 ?_
    refine y_iadd k168_87 ?_
    obtain ⟨hc, hE⟩ := zif_some hE
    refine y_iald k168_88 ar229 (zinN ln229 hc) ?_
    refine y_goto (tgt := 93) k168_89 (by decide) ?_
    exact y_weak (ls0 := [some (.ref 222), some (.int x1), some (.int x2), none, some (.int x4), some (.int x5), some (.int xs0)]) ⟨rfl, rfl, rfl, rfl, rfl, rfl, rfl, trivial⟩ (F168_93 K k13 hk13 x1 x2 x4 x5 xs0 (g 229 ((3 * x5) + 1).toNatClampNeg) _ _ _ hE)
theorem F168_70 {L : Nat} {xs : Nat → Int32} {d : Nat} (K : Nat) (k13 : Int32 → Int32 → Int32 → Int32 → Int32 → zS → Option (Int32 × zS)) (hk13 : ∀ (x1 : Int32) (x2 : Int32) (x3 : Int32) (x4 : Int32) (x5 : Int32) (g : zS) (r : Int32) (g' : zS), k13 x1 x2 x3 x4 x5 g = some (r, g') → zG2 L xs (d + 0) zm168 13 [some (.ref 222), some (.int x1), some (.int x2), some (.int x3), some (.int x4), some (.int x5), none] [] g (some (.int r)) g') (x1 : Int32) (x2 : Int32) (x3 : Int32) (x4 : Int32) (x5 : Int32) (g : zS) (r : Int32) (g' : zS) (hE : f168_70 K k13 x1 x2 x3 x4 x5 g = some (r, g')) : zG2 L xs (d + 0) zm168 70 [some (.ref 222), some (.int x1), some (.int x2), some (.int x3), some (.int x4), some (.int x5), none] [] g (some (.int r)) g' := by
  unfold f168_70 at hE
  refine y_iconst (v := 0) k168_70 oi_0 ?_
  exact F168_71 K k13 hk13 x1 x2 x3 x4 x5 0 _ _ _ hE
theorem F168_13 {L : Nat} {xs : Nat → Int32} {d : Nat} (K : Nat) : ∀ (n : Nat) (x1 : Int32) (x2 : Int32) (x3 : Int32) (x4 : Int32) (x5 : Int32) (g : zS) (r : Int32) (g' : zS) (hE : f168_13 K n x1 x2 x3 x4 x5 g = some (r, g')), zG2 L xs (d + 0) zm168 13 [some (.ref 222), some (.int x1), some (.int x2), some (.int x3), some (.int x4), some (.int x5), none] [] g (some (.int r)) g' := by
  intro n
  induction n with
  | zero => intro x1 x2 x3 x4 x5  g r g' hE; cases hE
  | succ n ih =>
    intro x1 x2 x3 x4 x5  g r g' hE
    rw [f168_13] at hE
    refine y_iload k168_13 rfl ?_
    refine y_aload_n k168_15 rfl rfl ?_
    refine y_getI k168_16 fk_10_152 sh222 rfl ?_
    by_cases c133 : (g 222 11) ≤ x5
    · rw [if_pos c133] at hE
      refine y_icT (tgt := 123) k168_19 (by decide) c133 ?_
      refine y_iload_n k168_123 rfl ?_
      obtain ⟨rfl, rfl⟩ := zpr hE
      exact y_iret k168_124 rfl
    · rw [if_neg c133] at hE
      refine y_icF 123 k168_19 (by decide) c133 ?_
      refine y_aload_n k168_22 rfl rfl ?_
      refine y_getR k168_23 fk_10_29 sh222 rfl ?_
      refine y_iconst (v := 3) k168_26 oi_3 ?_
      refine y_iload k168_27 rfl ?_
      refine y_imul k168_29 ?_
      obtain ⟨hc, hE⟩ := zif_some hE
      refine y_iald k168_30 ar229 (zinN ln229 hc) ?_
      refine y_iload_n k168_31 rfl ?_
      by_cases c132 : ¬ (g 229 (3 * x5).toNatClampNeg) = x1
      · rw [if_pos c132] at hE
        refine y_icT (tgt := 70) k168_32 (by decide) c132 ?_
        exact F168_70 K (f168_13 K n) ih x1 x2 x3 x4 x5 _ _ _ hE
      · rw [if_neg c132] at hE
        refine y_icF 70 k168_32 (by decide) c132 ?_
        refine y_aload_n k168_35 rfl rfl ?_
        refine y_getR k168_36 fk_10_29 sh222 rfl ?_
        refine y_iconst (v := 3) k168_39 oi_3 ?_
        refine y_iload k168_40 rfl ?_
        refine y_imul k168_42 ?_
        refine y_iconst (v := 2) k168_43 oi_2 ?_
        refine y_iadd k168_44 ?_
        obtain ⟨hc, hE⟩ := zif_some hE
        refine y_iald k168_45 ar229 (zinN ln229 hc) ?_
        refine y_iload_n k168_46 rfl ?_
        by_cases c131 : x2 < (g 229 ((3 * x5) + 2).toNatClampNeg)
        · rw [if_pos c131] at hE
          refine y_icT (tgt := 70) k168_47 (by decide) c131 ?_
          exact F168_70 K (f168_13 K n) ih x1 x2 x3 x4 x5 _ _ _ hE
        · rw [if_neg c131] at hE
          refine y_icF 70 k168_47 (by decide) c131 ?_
          refine y_aload_n k168_50 rfl rfl ?_
          refine y_getR k168_51 fk_10_29 sh222 rfl ?_
          refine y_iconst (v := 3) k168_54 oi_3 ?_
          refine y_iload k168_55 rfl ?_
          refine y_imul k168_57 ?_
          refine y_iconst (v := 2) k168_58 oi_2 ?_
          refine y_iadd k168_59 ?_
          obtain ⟨hc, hE⟩ := zif_some hE
          refine y_iald k168_60 ar229 (zinN ln229 hc) ?_
          refine y_iload k168_61 rfl ?_
          by_cases c130 : (g 229 ((3 * x5) + 2).toNatClampNeg) < x4
          · rw [if_pos c130] at hE
            refine y_icT (tgt := 70) k168_63 (by decide) c130 ?_
            exact F168_70 K (f168_13 K n) ih x1 x2 x3 x4 x5 _ _ _ hE
          · rw [if_neg c130] at hE
            refine y_icF 70 k168_63 (by decide) c130 ?_
            refine y_iconst (v := 1) k168_66 oi_1 ?_
            refine y_goto (tgt := 71) k168_67 (by decide) ?_
            exact F168_71 K (f168_13 K n) ih x1 x2 x3 x4 x5 1 _ _ _ hE
theorem F168 {L : Nat} {xs : Nat → Int32} (K : Nat) (x1 : Int32) (x2 : Int32) (g : zS) (r : Int32) (g' : zS) (hE : f168 K x1 x2 g = some (r, g')) (d : Nat) : zE2 L xs (d + 1) 168 [.ref 222, .int x1, .int x2] g (some (.int r)) g' := by
  refine y_ev (n := 0) (d := d + 0) (ls := [some (.ref 222), some (.int x1), some (.int x2), none, none, none, none]) zm168_get (by decide) (Nat.le_of_ble_eq_true rfl) rfl ?_
  unfold f168 at hE
  refine y_aload_n k168_0 rfl rfl ?_
  refine y_getR k168_1 fk_10_23 sh222 rfl ?_
  refine y_iload_n k168_4 rfl ?_
  obtain ⟨hc, hE⟩ := zif_some hE
  refine y_iald k168_5 ar227 (zinN ln227 hc) ?_
  refine y_istore_n (ls2 := [some (.ref 222), some (.int x1), some (.int x2), some (.int (g 227 x1.toNatClampNeg)), none, none, none]) k168_6 rfl (Nat.le_of_ble_eq_true rfl) rfl ?_
  refine y_iconst (v := (-1)) k168_7 oi_m1 ?_
  refine y_istore (ls2 := [some (.ref 222), some (.int x1), some (.int x2), some (.int (g 227 x1.toNatClampNeg)), some (.int (-1)), none, none]) k168_8 rfl (Nat.le_of_ble_eq_true rfl) rfl ?_
  refine y_iconst (v := 0) k168_10 oi_0 ?_
  refine y_istore (ls2 := [some (.ref 222), some (.int x1), some (.int x2), some (.int (g 227 x1.toNatClampNeg)), some (.int (-1)), some (.int 0), none]) k168_11 rfl (Nat.le_of_ble_eq_true rfl) rfl ?_
  exact F168_13 K K x1 x2 (g 227 x1.toNatClampNeg) (-1) 0 _ _ _ hE
-- AdjectiveCouponsModel.saidBy
def f171_4 (K : Nat) : Nat → Int32 → Int32 → Int32 → zS → Option (Int32 × zS)
  | 0, _, _, _, _ => none
  | n + 1, x1, x2, x3, g => if 10 ≤ x3 then some (x2, g) else if zin ((17 + (10 * x1)) + x3) 803 then (f171_4 K n) x1 (x2 + (g 223 ((17 + (10 * x1)) + x3).toNatClampNeg)) (x3 + 1) g else none
def f171 (K : Nat) (x1 : Int32) (g : zS) : Option (Int32 × zS) := f171_4 K K x1 0 0 g
theorem F171_4 {L : Nat} {xs : Nat → Int32} {d : Nat} (K : Nat) : ∀ (n : Nat) (x1 : Int32) (x2 : Int32) (x3 : Int32) (g : zS) (r : Int32) (g' : zS) (hE : f171_4 K n x1 x2 x3 g = some (r, g')), zG2 L xs (d + 0) zm171 4 [some (.ref 222), some (.int x1), some (.int x2), some (.int x3)] [] g (some (.int r)) g' := by
  intro n
  induction n with
  | zero => intro x1 x2 x3  g r g' hE; cases hE
  | succ n ih =>
    intro x1 x2 x3  g r g' hE
    rw [f171_4] at hE
    refine y_iload_n k171_4 rfl ?_
    refine y_bipush (v := 10) k171_5 b8_10 ?_
    by_cases c104 : 10 ≤ x3
    · rw [if_pos c104] at hE
      refine y_icT (tgt := 33) k171_7 (by decide) c104 ?_
      refine y_iload_n k171_33 rfl ?_
      obtain ⟨rfl, rfl⟩ := zpr hE
      exact y_iret k171_34 rfl
    · rw [if_neg c104] at hE
      refine y_icF 33 k171_7 (by decide) c104 ?_
      refine y_iload_n k171_10 rfl ?_
      refine y_aload_n k171_11 rfl rfl ?_
      refine y_getR k171_12 fk_10_7 sh222 rfl ?_
      refine y_bipush (v := 17) k171_15 b8_17 ?_
      refine y_bipush (v := 10) k171_17 b8_10 ?_
      refine y_iload_n k171_19 rfl ?_
      refine y_imul k171_20 ?_
      refine y_iadd k171_21 ?_
      refine y_iload_n k171_22 rfl ?_
      refine y_iadd k171_23 ?_
      obtain ⟨hc, hE⟩ := zif_some hE
      refine y_iald k171_24 ar223 (zinN ln223 hc) ?_
      refine y_iadd k171_25 ?_
      refine y_istore_n (ls2 := [some (.ref 222), some (.int x1), some (.int (x2 + (g 223 ((17 + (10 * x1)) + x3).toNatClampNeg))), some (.int x3)]) k171_26 rfl (Nat.le_of_ble_eq_true rfl) rfl ?_
      refine y_iinc (v := (x3 + 1)) (ls2 := [some (.ref 222), some (.int x1), some (.int (x2 + (g 223 ((17 + (10 * x1)) + x3).toNatClampNeg))), some (.int (x3 + 1))]) k171_27 rfl rfl (by rw [oi_1]) rfl ?_
      refine y_goto (tgt := 4) k171_30 (by decide) ?_
      exact ih x1 (x2 + (g 223 ((17 + (10 * x1)) + x3).toNatClampNeg)) (x3 + 1) _ _ _ hE
theorem F171 {L : Nat} {xs : Nat → Int32} (K : Nat) (x1 : Int32) (g : zS) (r : Int32) (g' : zS) (hE : f171 K x1 g = some (r, g')) (d : Nat) : zE2 L xs (d + 1) 171 [.ref 222, .int x1] g (some (.int r)) g' := by
  refine y_ev (n := 0) (d := d + 0) (ls := [some (.ref 222), some (.int x1), none, none]) zm171_get (by decide) (Nat.le_of_ble_eq_true rfl) rfl ?_
  unfold f171 at hE
  refine y_iconst (v := 0) k171_0 oi_0 ?_
  refine y_istore_n (ls2 := [some (.ref 222), some (.int x1), some (.int 0), none]) k171_1 rfl (Nat.le_of_ble_eq_true rfl) rfl ?_
  refine y_iconst (v := 0) k171_2 oi_0 ?_
  refine y_istore_n (ls2 := [some (.ref 222), some (.int x1), some (.int 0), some (.int 0)]) k171_3 rfl (Nat.le_of_ble_eq_true rfl) rfl ?_
  exact F171_4 K K x1 0 0 _ _ _ hE
-- AdjectiveCouponsModel.layLine
def f173_2 (K : Nat) : Nat → Int32 → zS → Option (Unit × zS)
  | 0, _, _ => none
  | n + 1, x1, g => if (g 222 18) ≤ x1 then some ((), (zup g 222 29 (g 222 18))) else if zin x1 8 then if zin x1 8 then (f173_2 K n) (x1 + 1) (zup g 235 x1.toNatClampNeg (g 232 x1.toNatClampNeg)) else none else none
def f173 (K : Nat) (g : zS) : Option (Unit × zS) := f173_2 K K 0 g
theorem F173_2 {L : Nat} {xs : Nat → Int32} {d : Nat} (K : Nat) : ∀ (n : Nat) (x1 : Int32) (g : zS) (r : Unit) (g' : zS) (hE : f173_2 K n x1 g = some (r, g')), zG2 L xs (d + 0) zm173 2 [some (.ref 222), some (.int x1)] [] g none g' := by
  intro n
  induction n with
  | zero => intro x1  g r g' hE; cases hE
  | succ n ih =>
    intro x1  g r g' hE
    rw [f173_2] at hE
    refine y_iload_n k173_2 rfl ?_
    refine y_aload_n k173_3 rfl rfl ?_
    refine y_getI k173_4 fk_10_185 sh222 rfl ?_
    by_cases c104 : (g 222 18) ≤ x1
    · rw [if_pos c104] at hE
      refine y_icT (tgt := 28) k173_7 (by decide) c104 ?_
      refine y_aload_n k173_28 rfl rfl ?_
      refine y_aload_n k173_29 rfl rfl ?_
      refine y_getI k173_30 fk_10_185 sh222 rfl ?_
      refine y_putI k173_33 fk_10_194 sh222 rfl pi_10_29.1 pi_10_29.2 ?_
      obtain ⟨rfl, rfl⟩ := zpr hE
      exact y_vret k173_36 rfl
    · rw [if_neg c104] at hE
      refine y_icF 28 k173_7 (by decide) c104 ?_
      refine y_aload_n k173_10 rfl rfl ?_
      refine y_getR k173_11 fk_10_51 sh222 rfl ?_
      refine y_iload_n k173_14 rfl ?_
      refine y_aload_n k173_15 rfl rfl ?_
      refine y_getR k173_16 fk_10_42 sh222 rfl ?_
      refine y_iload_n k173_19 rfl ?_
      obtain ⟨hc, hE⟩ := zif_some hE
      refine y_iald k173_20 ar232 (zinN ln232 hc) ?_
      obtain ⟨hc, hE⟩ := zif_some hE
      refine y_iast k173_21 ar235 (zinN ln235 hc) ?_
      refine y_iinc (v := (x1 + 1)) (ls2 := [some (.ref 222), some (.int (x1 + 1))]) k173_22 rfl rfl (by rw [oi_1]) rfl ?_
      refine y_goto (tgt := 2) k173_25 (by decide) ?_
      exact ih (x1 + 1) _ _ _ hE
theorem F173 {L : Nat} {xs : Nat → Int32} (K : Nat) (g : zS) (r : Unit) (g' : zS) (hE : f173 K  g = some (r, g')) (d : Nat) : zE2 L xs (d + 1) 173 [.ref 222] g none g' := by
  refine y_ev (n := 0) (d := d + 0) (ls := [some (.ref 222), none]) zm173_get (by decide) (Nat.le_of_ble_eq_true rfl) rfl ?_
  unfold f173 at hE
  refine y_iconst (v := 0) k173_0 oi_0 ?_
  refine y_istore_n (ls2 := [some (.ref 222), some (.int 0)]) k173_1 rfl (Nat.le_of_ble_eq_true rfl) rfl ?_
  exact F173_2 K K 0 _ _ _ hE
-- AdjectiveCouponsModel.has
def f177 (K : Nat) (x0 : Int32) (x1 : Int32) (g : zS) : Option (Int32 × zS) := if ¬ ((x0 >>> (x1 &&& 31)) &&& 1) = 1 then some (0, g) else (some (1, g))
theorem F177 {L : Nat} {xs : Nat → Int32} (K : Nat) (x0 : Int32) (x1 : Int32) (g : zS) (r : Int32) (g' : zS) (hE : f177 K x0 x1 g = some (r, g')) (d : Nat) : zE2 L xs (d + 1) 177 [.int x0, .int x1] g (some (.int r)) g' := by
  refine y_ev (n := 0) (d := d + 0) (ls := [some (.int x0), some (.int x1)]) zm177_get (by decide) (Nat.le_of_ble_eq_true rfl) rfl ?_
  unfold f177 at hE
  refine y_iload_n k177_0 rfl ?_
  refine y_iload_n k177_1 rfl ?_
  refine y_ishr k177_2 ?_
  refine y_iconst (v := 1) k177_3 oi_1 ?_
  refine y_iand k177_4 ?_
  refine y_iconst (v := 1) k177_5 oi_1 ?_
  by_cases c102 : ¬ ((x0 >>> (x1 &&& 31)) &&& 1) = 1
  · rw [if_pos c102] at hE
    refine y_icT (tgt := 13) k177_6 (by decide) c102 ?_
    refine y_iconst (v := 0) k177_13 oi_0 ?_
    obtain ⟨rfl, rfl⟩ := zpr hE
    exact y_zret k177_14 rfl (by decide)
  · rw [if_neg c102] at hE
    refine y_icF 13 k177_6 (by decide) c102 ?_
    refine y_iconst (v := 1) k177_9 oi_1 ?_
    refine y_goto (tgt := 14) k177_10 (by decide) ?_
    obtain ⟨rfl, rfl⟩ := zpr hE
    exact y_zret k177_14 rfl (by decide)
-- AdjectiveCouponsModel.wasAhead
def f179_33 (K : Nat) (k4 : Int32 → Int32 → Int32 → zS → Option (Int32 × zS)) (x1 : Int32) (x3 : Int32) (xs0 : Int32) (g : zS) : Option (Int32 × zS) := k4 x1 xs0 (x3 + 1) g
def f179_28 (K : Nat) (k4 : Int32 → Int32 → Int32 → zS → Option (Int32 × zS)) (x1 : Int32) (x3 : Int32) (g : zS) : Option (Int32 × zS) := f179_33 K k4 x1 x3 1 g
def f179_4 (K : Nat) : Nat → Int32 → Int32 → Int32 → zS → Option (Int32 × zS)
  | 0, _, _, _, _ => none
  | n + 1, x1, x2, x3, g => if x1 ≤ x3 then if x2 = 0 ∨ x2 = 1 then some (x2, g) else none else if ¬ x2 = 0 then f179_28 K (f179_4 K n) x1 x3 g else if zin x3 8 then if zin x1 8 then if ¬ (g 235 x3.toNatClampNeg) = (g 235 x1.toNatClampNeg) then f179_33 K (f179_4 K n) x1 x3 0 g else (f179_28 K (f179_4 K n) x1 x3 g) else none else none
def f179 (K : Nat) (x1 : Int32) (g : zS) : Option (Int32 × zS) := f179_4 K K x1 0 0 g
theorem F179_33 {L : Nat} {xs : Nat → Int32} {d : Nat} (K : Nat) (k4 : Int32 → Int32 → Int32 → zS → Option (Int32 × zS)) (hk4 : ∀ (x1 : Int32) (x2 : Int32) (x3 : Int32) (g : zS) (r : Int32) (g' : zS), k4 x1 x2 x3 g = some (r, g') → zG2 L xs (d + 0) zm179 4 [some (.ref 222), some (.int x1), some (.int x2), some (.int x3)] [] g (some (.int r)) g') (x1 : Int32) (x3 : Int32) (xs0 : Int32) (g : zS) (r : Int32) (g' : zS) (hE : f179_33 K k4 x1 x3 xs0 g = some (r, g')) : zG2 L xs (d + 0) zm179 33 [some (.ref 222), some (.int x1), none, some (.int x3)] [.int xs0] g (some (.int r)) g' := by
  unfold f179_33 at hE
  refine y_istore_n (ls2 := [some (.ref 222), some (.int x1), some (.int xs0), some (.int x3)]) k179_33 rfl (Nat.le_of_ble_eq_true rfl) rfl ?_
  refine y_iinc (v := (x3 + 1)) (ls2 := [some (.ref 222), some (.int x1), some (.int xs0), some (.int (x3 + 1))]) k179_34 rfl rfl (by rw [oi_1]) rfl ?_
  refine y_goto (tgt := 4) k179_37 (by decide) ?_
  exact hk4 x1 xs0 (x3 + 1) _ _ _ hE
theorem F179_28 {L : Nat} {xs : Nat → Int32} {d : Nat} (K : Nat) (k4 : Int32 → Int32 → Int32 → zS → Option (Int32 × zS)) (hk4 : ∀ (x1 : Int32) (x2 : Int32) (x3 : Int32) (g : zS) (r : Int32) (g' : zS), k4 x1 x2 x3 g = some (r, g') → zG2 L xs (d + 0) zm179 4 [some (.ref 222), some (.int x1), some (.int x2), some (.int x3)] [] g (some (.int r)) g') (x1 : Int32) (x3 : Int32) (g : zS) (r : Int32) (g' : zS) (hE : f179_28 K k4 x1 x3 g = some (r, g')) : zG2 L xs (d + 0) zm179 28 [some (.ref 222), some (.int x1), none, some (.int x3)] [] g (some (.int r)) g' := by
  unfold f179_28 at hE
  refine y_iconst (v := 1) k179_28 oi_1 ?_
  refine y_goto (tgt := 33) k179_29 (by decide) ?_
  exact F179_33 K k4 hk4 x1 x3 1 _ _ _ hE
theorem F179_4 {L : Nat} {xs : Nat → Int32} {d : Nat} (K : Nat) : ∀ (n : Nat) (x1 : Int32) (x2 : Int32) (x3 : Int32) (g : zS) (r : Int32) (g' : zS) (hE : f179_4 K n x1 x2 x3 g = some (r, g')), zG2 L xs (d + 0) zm179 4 [some (.ref 222), some (.int x1), some (.int x2), some (.int x3)] [] g (some (.int r)) g' := by
  intro n
  induction n with
  | zero => intro x1 x2 x3  g r g' hE; cases hE
  | succ n ih =>
    intro x1 x2 x3  g r g' hE
    rw [f179_4] at hE
    refine y_iload_n k179_4 rfl ?_
    refine y_iload_n k179_5 rfl ?_
    by_cases c112 : x1 ≤ x3
    · rw [if_pos c112] at hE
      refine y_icT (tgt := 40) k179_6 (by decide) c112 ?_
      refine y_iload_n k179_40 rfl ?_
      obtain ⟨hc, hE⟩ := zif_some hE
      obtain ⟨rfl, rfl⟩ := zpr hE
      exact y_zret k179_41 rfl hc
    · rw [if_neg c112] at hE
      refine y_icF 40 k179_6 (by decide) c112 ?_
      refine y_iload_n k179_9 rfl ?_
      by_cases c111 : ¬ x2 = 0
      · rw [if_pos c111] at hE
        refine y_ifT (tgt := 28) k179_10 (by decide) c111 ?_
        exact y_weak (ls0 := [some (.ref 222), some (.int x1), none, some (.int x3)]) ⟨rfl, rfl, rfl, rfl, trivial⟩ (F179_28 K (f179_4 K n) ih x1 x3 _ _ _ hE)
      · rw [if_neg c111] at hE
        refine y_ifF 28 k179_10 (by decide) c111 ?_
        refine y_aload_n k179_13 rfl rfl ?_
        refine y_getR k179_14 fk_10_51 sh222 rfl ?_
        refine y_iload_n k179_17 rfl ?_
        obtain ⟨hc, hE⟩ := zif_some hE
        refine y_iald k179_18 ar235 (zinN ln235 hc) ?_
        refine y_aload_n k179_19 rfl rfl ?_
        refine y_getR k179_20 fk_10_51 sh222 rfl ?_
        refine y_iload_n k179_23 rfl ?_
        obtain ⟨hc, hE⟩ := zif_some hE
        refine y_iald k179_24 ar235 (zinN ln235 hc) ?_
        by_cases c110 : ¬ (g 235 x3.toNatClampNeg) = (g 235 x1.toNatClampNeg)
        · rw [if_pos c110] at hE
          refine y_icT (tgt := 32) k179_25 (by decide) c110 ?_
          refine y_iconst (v := 0) k179_32 oi_0 ?_
          exact y_weak (ls0 := [some (.ref 222), some (.int x1), none, some (.int x3)]) ⟨rfl, rfl, rfl, rfl, trivial⟩ (F179_33 K (f179_4 K n) ih x1 x3 0 _ _ _ hE)
        · rw [if_neg c110] at hE
          refine y_icF 32 k179_25 (by decide) c110 ?_
          exact y_weak (ls0 := [some (.ref 222), some (.int x1), none, some (.int x3)]) ⟨rfl, rfl, rfl, rfl, trivial⟩ (F179_28 K (f179_4 K n) ih x1 x3 _ _ _ hE)
theorem F179 {L : Nat} {xs : Nat → Int32} (K : Nat) (x1 : Int32) (g : zS) (r : Int32) (g' : zS) (hE : f179 K x1 g = some (r, g')) (d : Nat) : zE2 L xs (d + 1) 179 [.ref 222, .int x1] g (some (.int r)) g' := by
  refine y_ev (n := 0) (d := d + 0) (ls := [some (.ref 222), some (.int x1), none, none]) zm179_get (by decide) (Nat.le_of_ble_eq_true rfl) rfl ?_
  unfold f179 at hE
  refine y_iconst (v := 0) k179_0 oi_0 ?_
  refine y_istore_n (ls2 := [some (.ref 222), some (.int x1), some (.int 0), none]) k179_1 rfl (Nat.le_of_ble_eq_true rfl) rfl ?_
  refine y_iconst (v := 0) k179_2 oi_0 ?_
  refine y_istore_n (ls2 := [some (.ref 222), some (.int x1), some (.int 0), some (.int 0)]) k179_3 rfl (Nat.le_of_ble_eq_true rfl) rfl ?_
  exact F179_4 K K x1 0 0 _ _ _ hE
-- AdjectiveCouponsModel.wipe
def f181 (K : Nat) (g : zS) : Option (Int32 × zS) := some ((g 222 18), (zup g 222 18 0))
theorem F181 {L : Nat} {xs : Nat → Int32} (K : Nat) (g : zS) (r : Int32) (g' : zS) (hE : f181 K  g = some (r, g')) (d : Nat) : zE2 L xs (d + 1) 181 [.ref 222] g (some (.int r)) g' := by
  refine y_ev (n := 0) (d := d + 0) (ls := [some (.ref 222), none]) zm181_get (by decide) (Nat.le_of_ble_eq_true rfl) rfl ?_
  unfold f181 at hE
  refine y_aload_n k181_0 rfl rfl ?_
  refine y_getI k181_1 fk_10_185 sh222 rfl ?_
  refine y_istore_n (ls2 := [some (.ref 222), some (.int (g 222 18))]) k181_4 rfl (Nat.le_of_ble_eq_true rfl) rfl ?_
  refine y_aload_n k181_5 rfl rfl ?_
  refine y_iconst (v := 0) k181_6 oi_0 ?_
  refine y_putI k181_7 fk_10_185 sh222 rfl pi_10_18.1 pi_10_18.2 ?_
  refine y_iload_n k181_10 rfl ?_
  obtain ⟨rfl, rfl⟩ := zpr hE
  exact y_iret k181_11 rfl
-- AdjectiveCouponsModel.hasHole
def f186_31 (K : Nat) (k4 : Int32 → Int32 → zS → Option (Int32 × zS)) (x2 : Int32) (xs0 : Int32) (g : zS) : Option (Int32 × zS) := k4 xs0 (x2 + 1) g
def f186_26 (K : Nat) (k4 : Int32 → Int32 → zS → Option (Int32 × zS)) (x2 : Int32) (g : zS) : Option (Int32 × zS) := f186_31 K k4 x2 1 g
def f186_4 (K : Nat) : Nat → Int32 → Int32 → zS → Option (Int32 × zS)
  | 0, _, _, _ => none
  | n + 1, x1, x2, g => if (g 222 29) ≤ x2 then if x1 = 0 ∨ x1 = 1 then some (x1, g) else none else if ¬ x1 = 0 then f186_26 K (f186_4 K n) x2 g else if zin x2 8 then if ¬ (g 235 x2.toNatClampNeg) = (-1) then f186_31 K (f186_4 K n) x2 0 g else (f186_26 K (f186_4 K n) x2 g) else none
def f186 (K : Nat) (g : zS) : Option (Int32 × zS) := f186_4 K K 0 0 g
theorem F186_31 {L : Nat} {xs : Nat → Int32} {d : Nat} (K : Nat) (k4 : Int32 → Int32 → zS → Option (Int32 × zS)) (hk4 : ∀ (x1 : Int32) (x2 : Int32) (g : zS) (r : Int32) (g' : zS), k4 x1 x2 g = some (r, g') → zG2 L xs (d + 0) zm186 4 [some (.ref 222), some (.int x1), some (.int x2)] [] g (some (.int r)) g') (x2 : Int32) (xs0 : Int32) (g : zS) (r : Int32) (g' : zS) (hE : f186_31 K k4 x2 xs0 g = some (r, g')) : zG2 L xs (d + 0) zm186 31 [some (.ref 222), none, some (.int x2)] [.int xs0] g (some (.int r)) g' := by
  unfold f186_31 at hE
  refine y_istore_n (ls2 := [some (.ref 222), some (.int xs0), some (.int x2)]) k186_31 rfl (Nat.le_of_ble_eq_true rfl) rfl ?_
  refine y_iinc (v := (x2 + 1)) (ls2 := [some (.ref 222), some (.int xs0), some (.int (x2 + 1))]) k186_32 rfl rfl (by rw [oi_1]) rfl ?_
  refine y_goto (tgt := 4) k186_35 (by decide) ?_
  exact hk4 xs0 (x2 + 1) _ _ _ hE
theorem F186_26 {L : Nat} {xs : Nat → Int32} {d : Nat} (K : Nat) (k4 : Int32 → Int32 → zS → Option (Int32 × zS)) (hk4 : ∀ (x1 : Int32) (x2 : Int32) (g : zS) (r : Int32) (g' : zS), k4 x1 x2 g = some (r, g') → zG2 L xs (d + 0) zm186 4 [some (.ref 222), some (.int x1), some (.int x2)] [] g (some (.int r)) g') (x2 : Int32) (g : zS) (r : Int32) (g' : zS) (hE : f186_26 K k4 x2 g = some (r, g')) : zG2 L xs (d + 0) zm186 26 [some (.ref 222), none, some (.int x2)] [] g (some (.int r)) g' := by
  unfold f186_26 at hE
  refine y_iconst (v := 1) k186_26 oi_1 ?_
  refine y_goto (tgt := 31) k186_27 (by decide) ?_
  exact F186_31 K k4 hk4 x2 1 _ _ _ hE
theorem F186_4 {L : Nat} {xs : Nat → Int32} {d : Nat} (K : Nat) : ∀ (n : Nat) (x1 : Int32) (x2 : Int32) (g : zS) (r : Int32) (g' : zS) (hE : f186_4 K n x1 x2 g = some (r, g')), zG2 L xs (d + 0) zm186 4 [some (.ref 222), some (.int x1), some (.int x2)] [] g (some (.int r)) g' := by
  intro n
  induction n with
  | zero => intro x1 x2  g r g' hE; cases hE
  | succ n ih =>
    intro x1 x2  g r g' hE
    rw [f186_4] at hE
    refine y_iload_n k186_4 rfl ?_
    refine y_aload_n k186_5 rfl rfl ?_
    refine y_getI k186_6 fk_10_194 sh222 rfl ?_
    by_cases c112 : (g 222 29) ≤ x2
    · rw [if_pos c112] at hE
      refine y_icT (tgt := 38) k186_9 (by decide) c112 ?_
      refine y_iload_n k186_38 rfl ?_
      obtain ⟨hc, hE⟩ := zif_some hE
      obtain ⟨rfl, rfl⟩ := zpr hE
      exact y_zret k186_39 rfl hc
    · rw [if_neg c112] at hE
      refine y_icF 38 k186_9 (by decide) c112 ?_
      refine y_iload_n k186_12 rfl ?_
      by_cases c111 : ¬ x1 = 0
      · rw [if_pos c111] at hE
        refine y_ifT (tgt := 26) k186_13 (by decide) c111 ?_
        exact y_weak (ls0 := [some (.ref 222), none, some (.int x2)]) ⟨rfl, rfl, rfl, trivial⟩ (F186_26 K (f186_4 K n) ih x2 _ _ _ hE)
      · rw [if_neg c111] at hE
        refine y_ifF 26 k186_13 (by decide) c111 ?_
        refine y_aload_n k186_16 rfl rfl ?_
        refine y_getR k186_17 fk_10_51 sh222 rfl ?_
        refine y_iload_n k186_20 rfl ?_
        obtain ⟨hc, hE⟩ := zif_some hE
        refine y_iald k186_21 ar235 (zinN ln235 hc) ?_
        refine y_iconst (v := (-1)) k186_22 oi_m1 ?_
        by_cases c110 : ¬ (g 235 x2.toNatClampNeg) = (-1)
        · rw [if_pos c110] at hE
          refine y_icT (tgt := 30) k186_23 (by decide) c110 ?_
          refine y_iconst (v := 0) k186_30 oi_0 ?_
          exact y_weak (ls0 := [some (.ref 222), none, some (.int x2)]) ⟨rfl, rfl, rfl, trivial⟩ (F186_31 K (f186_4 K n) ih x2 0 _ _ _ hE)
        · rw [if_neg c110] at hE
          refine y_icF 30 k186_23 (by decide) c110 ?_
          exact y_weak (ls0 := [some (.ref 222), none, some (.int x2)]) ⟨rfl, rfl, rfl, trivial⟩ (F186_26 K (f186_4 K n) ih x2 _ _ _ hE)
theorem F186 {L : Nat} {xs : Nat → Int32} (K : Nat) (g : zS) (r : Int32) (g' : zS) (hE : f186 K  g = some (r, g')) (d : Nat) : zE2 L xs (d + 1) 186 [.ref 222] g (some (.int r)) g' := by
  refine y_ev (n := 0) (d := d + 0) (ls := [some (.ref 222), none, none]) zm186_get (by decide) (Nat.le_of_ble_eq_true rfl) rfl ?_
  unfold f186 at hE
  refine y_iconst (v := 0) k186_0 oi_0 ?_
  refine y_istore_n (ls2 := [some (.ref 222), some (.int 0), none]) k186_1 rfl (Nat.le_of_ble_eq_true rfl) rfl ?_
  refine y_iconst (v := 0) k186_2 oi_0 ?_
  refine y_istore_n (ls2 := [some (.ref 222), some (.int 0), some (.int 0)]) k186_3 rfl (Nat.le_of_ble_eq_true rfl) rfl ?_
  exact F186_4 K K 0 0 _ _ _ hE
-- AdjectiveCouponsModel.copy
def f189_2 (K : Nat) : Nat → Int32 → Int32 → Int32 → zS → Option (Unit × zS)
  | 0, _, _, _, _ => none
  | n + 1, x1, x2, x3, g => if 73 ≤ x3 then some ((), g) else if zin (x1 + x3) 803 then if zin (x2 + x3) 803 then (f189_2 K n) x1 x2 (x3 + 1) (zup g 223 (x2 + x3).toNatClampNeg (g 223 (x1 + x3).toNatClampNeg)) else none else none
def f189 (K : Nat) (x1 : Int32) (x2 : Int32) (g : zS) : Option (Unit × zS) := f189_2 K K x1 x2 0 g
theorem F189_2 {L : Nat} {xs : Nat → Int32} {d : Nat} (K : Nat) : ∀ (n : Nat) (x1 : Int32) (x2 : Int32) (x3 : Int32) (g : zS) (r : Unit) (g' : zS) (hE : f189_2 K n x1 x2 x3 g = some (r, g')), zG2 L xs (d + 0) zm189 2 [some (.ref 222), some (.int x1), some (.int x2), some (.int x3)] [] g none g' := by
  intro n
  induction n with
  | zero => intro x1 x2 x3  g r g' hE; cases hE
  | succ n ih =>
    intro x1 x2 x3  g r g' hE
    rw [f189_2] at hE
    refine y_iload_n k189_2 rfl ?_
    refine y_bipush (v := 73) k189_3 b8_73 ?_
    by_cases c104 : 73 ≤ x3
    · rw [if_pos c104] at hE
      refine y_icT (tgt := 30) k189_5 (by decide) c104 ?_
      obtain ⟨rfl, rfl⟩ := zpr hE
      exact y_vret k189_30 rfl
    · rw [if_neg c104] at hE
      refine y_icF 30 k189_5 (by decide) c104 ?_
      refine y_aload_n k189_8 rfl rfl ?_
      refine y_getR k189_9 fk_10_7 sh222 rfl ?_
      refine y_iload_n k189_12 rfl ?_
      refine y_iload_n k189_13 rfl ?_
      refine y_iadd k189_14 ?_
      refine y_aload_n k189_15 rfl rfl ?_
      refine y_getR k189_16 fk_10_7 sh222 rfl ?_
      refine y_iload_n k189_19 rfl ?_
      refine y_iload_n k189_20 rfl ?_
      refine y_iadd k189_21 ?_
      obtain ⟨hc, hE⟩ := zif_some hE
      refine y_iald k189_22 ar223 (zinN ln223 hc) ?_
      obtain ⟨hc, hE⟩ := zif_some hE
      refine y_iast k189_23 ar223 (zinN ln223 hc) ?_
      refine y_iinc (v := (x3 + 1)) (ls2 := [some (.ref 222), some (.int x1), some (.int x2), some (.int (x3 + 1))]) k189_24 rfl rfl (by rw [oi_1]) rfl ?_
      refine y_goto (tgt := 2) k189_27 (by decide) ?_
      exact ih x1 x2 (x3 + 1) _ _ _ hE
theorem F189 {L : Nat} {xs : Nat → Int32} (K : Nat) (x1 : Int32) (x2 : Int32) (g : zS) (r : Unit) (g' : zS) (hE : f189 K x1 x2 g = some (r, g')) (d : Nat) : zE2 L xs (d + 1) 189 [.ref 222, .int x1, .int x2] g none g' := by
  refine y_ev (n := 0) (d := d + 0) (ls := [some (.ref 222), some (.int x1), some (.int x2), none]) zm189_get (by decide) (Nat.le_of_ble_eq_true rfl) rfl ?_
  unfold f189 at hE
  refine y_iconst (v := 0) k189_0 oi_0 ?_
  refine y_istore_n (ls2 := [some (.ref 222), some (.int x1), some (.int x2), some (.int 0)]) k189_1 rfl (Nat.le_of_ble_eq_true rfl) rfl ?_
  exact F189_2 K K x1 x2 0 _ _ _ hE
-- AdjectiveCouponsModel.worthOf
def f190_38 (K : Nat) (k4 : Int32 → Int32 → zS → Option (Int32 × zS)) (x2 : Int32) (xs0 : Int32) (xs1 : Int32) (g : zS) : Option (Int32 × zS) := k4 (xs0 + xs1) (x2 + 1) g
def f190_4 (K : Nat) : Nat → Int32 → Int32 → zS → Option (Int32 × zS)
  | 0, _, _, _ => none
  | n + 1, x1, x2, g => if (g 222 29) ≤ x2 then some (x1, g) else if zin x2 8 then if ¬ (g 235 x2.toNatClampNeg) = (-1) then if zin x2 8 then if zin (g 235 x2.toNatClampNeg) 10 then f190_38 K (f190_4 K n) x2 x1 (g 228 (g 235 x2.toNatClampNeg).toNatClampNeg) g else none else none else (f190_38 K (f190_4 K n) x2 x1 0 g) else none
def f190 (K : Nat) (g : zS) : Option (Int32 × zS) := f190_4 K K 0 0 g
theorem F190_38 {L : Nat} {xs : Nat → Int32} {d : Nat} (K : Nat) (k4 : Int32 → Int32 → zS → Option (Int32 × zS)) (hk4 : ∀ (x1 : Int32) (x2 : Int32) (g : zS) (r : Int32) (g' : zS), k4 x1 x2 g = some (r, g') → zG2 L xs (d + 0) zm190 4 [some (.ref 222), some (.int x1), some (.int x2)] [] g (some (.int r)) g') (x2 : Int32) (xs0 : Int32) (xs1 : Int32) (g : zS) (r : Int32) (g' : zS) (hE : f190_38 K k4 x2 xs0 xs1 g = some (r, g')) : zG2 L xs (d + 0) zm190 38 [some (.ref 222), none, some (.int x2)] [.int xs1, .int xs0] g (some (.int r)) g' := by
  unfold f190_38 at hE
  refine y_iadd k190_38 ?_
  refine y_istore_n (ls2 := [some (.ref 222), some (.int (xs0 + xs1)), some (.int x2)]) k190_39 rfl (Nat.le_of_ble_eq_true rfl) rfl ?_
  refine y_iinc (v := (x2 + 1)) (ls2 := [some (.ref 222), some (.int (xs0 + xs1)), some (.int (x2 + 1))]) k190_40 rfl rfl (by rw [oi_1]) rfl ?_
  refine y_goto (tgt := 4) k190_43 (by decide) ?_
  exact hk4 (xs0 + xs1) (x2 + 1) _ _ _ hE
theorem F190_4 {L : Nat} {xs : Nat → Int32} {d : Nat} (K : Nat) : ∀ (n : Nat) (x1 : Int32) (x2 : Int32) (g : zS) (r : Int32) (g' : zS) (hE : f190_4 K n x1 x2 g = some (r, g')), zG2 L xs (d + 0) zm190 4 [some (.ref 222), some (.int x1), some (.int x2)] [] g (some (.int r)) g' := by
  intro n
  induction n with
  | zero => intro x1 x2  g r g' hE; cases hE
  | succ n ih =>
    intro x1 x2  g r g' hE
    rw [f190_4] at hE
    refine y_iload_n k190_4 rfl ?_
    refine y_aload_n k190_5 rfl rfl ?_
    refine y_getI k190_6 fk_10_194 sh222 rfl ?_
    by_cases c108 : (g 222 29) ≤ x2
    · rw [if_pos c108] at hE
      refine y_icT (tgt := 46) k190_9 (by decide) c108 ?_
      refine y_iload_n k190_46 rfl ?_
      obtain ⟨rfl, rfl⟩ := zpr hE
      exact y_iret k190_47 rfl
    · rw [if_neg c108] at hE
      refine y_icF 46 k190_9 (by decide) c108 ?_
      refine y_iload_n k190_12 rfl ?_
      refine y_aload_n k190_13 rfl rfl ?_
      refine y_getR k190_14 fk_10_51 sh222 rfl ?_
      refine y_iload_n k190_17 rfl ?_
      obtain ⟨hc, hE⟩ := zif_some hE
      refine y_iald k190_18 ar235 (zinN ln235 hc) ?_
      refine y_iconst (v := (-1)) k190_19 oi_m1 ?_
      by_cases c107 : ¬ (g 235 x2.toNatClampNeg) = (-1)
      · rw [if_pos c107] at hE
        refine y_icT (tgt := 27) k190_20 (by decide) c107 ?_
        refine y_aload_n k190_27 rfl rfl ?_
        refine y_getR k190_28 fk_10_26 sh222 rfl ?_
        refine y_aload_n k190_31 rfl rfl ?_
        refine y_getR k190_32 fk_10_51 sh222 rfl ?_
        refine y_iload_n k190_35 rfl ?_
        obtain ⟨hc, hE⟩ := zif_some hE
        refine y_iald k190_36 ar235 (zinN ln235 hc) ?_
        obtain ⟨hc, hE⟩ := zif_some hE
        refine y_iald k190_37 ar228 (zinN ln228 hc) ?_
        exact y_weak (ls0 := [some (.ref 222), none, some (.int x2)]) ⟨rfl, rfl, rfl, trivial⟩ (F190_38 K (f190_4 K n) ih x2 x1 (g 228 (g 235 x2.toNatClampNeg).toNatClampNeg) _ _ _ hE)
      · rw [if_neg c107] at hE
        refine y_icF 27 k190_20 (by decide) c107 ?_
        refine y_iconst (v := 0) k190_23 oi_0 ?_
        refine y_goto (tgt := 38) k190_24 (by decide) ?_
        exact y_weak (ls0 := [some (.ref 222), none, some (.int x2)]) ⟨rfl, rfl, rfl, trivial⟩ (F190_38 K (f190_4 K n) ih x2 x1 0 _ _ _ hE)
theorem F190 {L : Nat} {xs : Nat → Int32} (K : Nat) (g : zS) (r : Int32) (g' : zS) (hE : f190 K  g = some (r, g')) (d : Nat) : zE2 L xs (d + 1) 190 [.ref 222] g (some (.int r)) g' := by
  refine y_ev (n := 0) (d := d + 0) (ls := [some (.ref 222), none, none]) zm190_get (by decide) (Nat.le_of_ble_eq_true rfl) rfl ?_
  unfold f190 at hE
  refine y_iconst (v := 0) k190_0 oi_0 ?_
  refine y_istore_n (ls2 := [some (.ref 222), some (.int 0), none]) k190_1 rfl (Nat.le_of_ble_eq_true rfl) rfl ?_
  refine y_iconst (v := 0) k190_2 oi_0 ?_
  refine y_istore_n (ls2 := [some (.ref 222), some (.int 0), some (.int 0)]) k190_3 rfl (Nat.le_of_ble_eq_true rfl) rfl ?_
  exact F190_4 K K 0 0 _ _ _ hE
-- AdjectiveCouponsModel.rationed
def f192_15 (K : Nat) (xs0 : Int32) (g : zS) : Option (Int32 × zS) := if (xs0 + (2 * (g 222 15))) ≤ 60 then some ((xs0 + (2 * (g 222 15))), g) else (some (60, g))
def f192 (K : Nat) (x1 : Int32) (x2 : Int32) (g : zS) : Option (Int32 × zS) := if zin x1 4 then if ¬ (g 230 x1.toNatClampNeg) = 1 then f192_15 K 0 g else (f192_15 K x2 g) else none
theorem F192_15 {L : Nat} {xs : Nat → Int32} {d : Nat} (K : Nat) (xs0 : Int32) (g : zS) (r : Int32) (g' : zS) (hE : f192_15 K xs0 g = some (r, g')) : zG2 L xs (d + 0) zm192 15 [some (.ref 222), none, none, none] [.int xs0] g (some (.int r)) g' := by
  unfold f192_15 at hE
  refine y_iconst (v := 2) k192_15 oi_2 ?_
  refine y_aload_n k192_16 rfl rfl ?_
  refine y_getI k192_17 fk_10_38 sh222 rfl ?_
  refine y_imul k192_20 ?_
  refine y_iadd k192_21 ?_
  refine y_istore_n (ls2 := [some (.ref 222), none, none, some (.int (xs0 + (2 * (g 222 15))))]) k192_22 rfl (Nat.le_of_ble_eq_true rfl) rfl ?_
  refine y_iload_n k192_23 rfl ?_
  refine y_bipush (v := 60) k192_24 b8_60 ?_
  by_cases c106 : (xs0 + (2 * (g 222 15))) ≤ 60
  · rw [if_pos c106] at hE
    refine y_icT (tgt := 34) k192_26 (by decide) c106 ?_
    refine y_iload_n k192_34 rfl ?_
    obtain ⟨rfl, rfl⟩ := zpr hE
    exact y_iret k192_35 rfl
  · rw [if_neg c106] at hE
    refine y_icF 34 k192_26 (by decide) c106 ?_
    refine y_bipush (v := 60) k192_29 b8_60 ?_
    refine y_goto (tgt := 35) k192_31 (by decide) ?_
    obtain ⟨rfl, rfl⟩ := zpr hE
    exact y_iret k192_35 rfl
theorem F192 {L : Nat} {xs : Nat → Int32} (K : Nat) (x1 : Int32) (x2 : Int32) (g : zS) (r : Int32) (g' : zS) (hE : f192 K x1 x2 g = some (r, g')) (d : Nat) : zE2 L xs (d + 1) 192 [.ref 222, .int x1, .int x2] g (some (.int r)) g' := by
  refine y_ev (n := 0) (d := d + 0) (ls := [some (.ref 222), some (.int x1), some (.int x2), none]) zm192_get (by decide) (Nat.le_of_ble_eq_true rfl) rfl ?_
  unfold f192 at hE
  refine y_aload_n k192_0 rfl rfl ?_
  refine y_getR k192_1 fk_10_32 sh222 rfl ?_
  refine y_iload_n k192_4 rfl ?_
  obtain ⟨hc, hE⟩ := zif_some hE
  refine y_iald k192_5 ar230 (zinN ln230 hc) ?_
  refine y_iconst (v := 1) k192_6 oi_1 ?_
  by_cases c107 : ¬ (g 230 x1.toNatClampNeg) = 1
  · rw [if_pos c107] at hE
    refine y_icT (tgt := 14) k192_7 (by decide) c107 ?_
    refine y_iconst (v := 0) k192_14 oi_0 ?_
    exact y_weak (ls0 := [some (.ref 222), none, none, none]) ⟨rfl, rfl, rfl, rfl, trivial⟩ (F192_15 K 0 _ _ _ hE)
  · rw [if_neg c107] at hE
    refine y_icF 14 k192_7 (by decide) c107 ?_
    refine y_iload_n k192_10 rfl ?_
    refine y_goto (tgt := 15) k192_11 (by decide) ?_
    exact y_weak (ls0 := [some (.ref 222), none, none, none]) ⟨rfl, rfl, rfl, rfl, trivial⟩ (F192_15 K x2 _ _ _ hE)
-- AdjectiveCouponsModel.factorial
def f203_4 (K : Nat) : Nat → Int32 → Int32 → Int32 → zS → Option (Int32 × zS)
  | 0, _, _, _, _ => none
  | n + 1, x0, x1, x2, g => if x0 < x2 then some (x1, g) else ((f203_4 K n) x0 (x1 * x2) (x2 + 1) g)
def f203 (K : Nat) (x0 : Int32) (g : zS) : Option (Int32 × zS) := f203_4 K K x0 1 2 g
theorem F203_4 {L : Nat} {xs : Nat → Int32} {d : Nat} (K : Nat) : ∀ (n : Nat) (x0 : Int32) (x1 : Int32) (x2 : Int32) (g : zS) (r : Int32) (g' : zS) (hE : f203_4 K n x0 x1 x2 g = some (r, g')), zG2 L xs (d + 0) zm203 4 [some (.int x0), some (.int x1), some (.int x2)] [] g (some (.int r)) g' := by
  intro n
  induction n with
  | zero => intro x0 x1 x2  g r g' hE; cases hE
  | succ n ih =>
    intro x0 x1 x2  g r g' hE
    rw [f203_4] at hE
    refine y_iload_n k203_4 rfl ?_
    refine y_iload_n k203_5 rfl ?_
    by_cases c104 : x0 < x2
    · rw [if_pos c104] at hE
      refine y_icT (tgt := 19) k203_6 (by decide) c104 ?_
      refine y_iload_n k203_19 rfl ?_
      obtain ⟨rfl, rfl⟩ := zpr hE
      exact y_iret k203_20 rfl
    · rw [if_neg c104] at hE
      refine y_icF 19 k203_6 (by decide) c104 ?_
      refine y_iload_n k203_9 rfl ?_
      refine y_iload_n k203_10 rfl ?_
      refine y_imul k203_11 ?_
      refine y_istore_n (ls2 := [some (.int x0), some (.int (x1 * x2)), some (.int x2)]) k203_12 rfl (Nat.le_of_ble_eq_true rfl) rfl ?_
      refine y_iinc (v := (x2 + 1)) (ls2 := [some (.int x0), some (.int (x1 * x2)), some (.int (x2 + 1))]) k203_13 rfl rfl (by rw [oi_1]) rfl ?_
      refine y_goto (tgt := 4) k203_16 (by decide) ?_
      exact ih x0 (x1 * x2) (x2 + 1) _ _ _ hE
theorem F203 {L : Nat} {xs : Nat → Int32} (K : Nat) (x0 : Int32) (g : zS) (r : Int32) (g' : zS) (hE : f203 K x0 g = some (r, g')) (d : Nat) : zE2 L xs (d + 1) 203 [.int x0] g (some (.int r)) g' := by
  refine y_ev (n := 0) (d := d + 0) (ls := [some (.int x0), none, none]) zm203_get (by decide) (Nat.le_of_ble_eq_true rfl) rfl ?_
  unfold f203 at hE
  refine y_iconst (v := 1) k203_0 oi_1 ?_
  refine y_istore_n (ls2 := [some (.int x0), some (.int 1), none]) k203_1 rfl (Nat.le_of_ble_eq_true rfl) rfl ?_
  refine y_iconst (v := 2) k203_2 oi_2 ?_
  refine y_istore_n (ls2 := [some (.int x0), some (.int 1), some (.int 2)]) k203_3 rfl (Nat.le_of_ble_eq_true rfl) rfl ?_
  exact F203_4 K K x0 1 2 _ _ _ hE
-- AdjectiveCouponsModel.isAheadOfBest
def f206_31 (K : Nat) (x1 : Int32) (g : zS) : Option (Int32 × zS) := if (g 222 29) ≤ x1 then some (0, g) else if zin x1 8 then if zin x1 8 then if (g 237 x1.toNatClampNeg) ≤ (g 235 x1.toNatClampNeg) then some (0, g) else (some (1, g)) else none else none
def f206_2 (K : Nat) : Nat → Int32 → zS → Option (Int32 × zS)
  | 0, _, _ => none
  | n + 1, x1, g => if (g 222 29) ≤ x1 then f206_31 K x1 g else if zin x1 8 then if zin x1 8 then if ¬ (g 235 x1.toNatClampNeg) = (g 237 x1.toNatClampNeg) then f206_31 K x1 g else ((f206_2 K n) (x1 + 1) g) else none else none
def f206 (K : Nat) (g : zS) : Option (Int32 × zS) := f206_2 K K 0 g
theorem F206_31 {L : Nat} {xs : Nat → Int32} {d : Nat} (K : Nat) (x1 : Int32) (g : zS) (r : Int32) (g' : zS) (hE : f206_31 K x1 g = some (r, g')) : zG2 L xs (d + 0) zm206 31 [some (.ref 222), some (.int x1)] [] g (some (.int r)) g' := by
  unfold f206_31 at hE
  refine y_iload_n k206_31 rfl ?_
  refine y_aload_n k206_32 rfl rfl ?_
  refine y_getI k206_33 fk_10_194 sh222 rfl ?_
  by_cases c112 : (g 222 29) ≤ x1
  · rw [if_pos c112] at hE
    refine y_icT (tgt := 58) k206_36 (by decide) c112 ?_
    refine y_iconst (v := 0) k206_58 oi_0 ?_
    obtain ⟨rfl, rfl⟩ := zpr hE
    exact y_zret k206_59 rfl (by decide)
  · rw [if_neg c112] at hE
    refine y_icF 58 k206_36 (by decide) c112 ?_
    refine y_aload_n k206_39 rfl rfl ?_
    refine y_getR k206_40 fk_10_51 sh222 rfl ?_
    refine y_iload_n k206_43 rfl ?_
    obtain ⟨hc, hE⟩ := zif_some hE
    refine y_iald k206_44 ar235 (zinN ln235 hc) ?_
    refine y_aload_n k206_45 rfl rfl ?_
    refine y_getR k206_46 fk_10_57 sh222 rfl ?_
    refine y_iload_n k206_49 rfl ?_
    obtain ⟨hc, hE⟩ := zif_some hE
    refine y_iald k206_50 ar237 (zinN ln237 hc) ?_
    by_cases c111 : (g 237 x1.toNatClampNeg) ≤ (g 235 x1.toNatClampNeg)
    · rw [if_pos c111] at hE
      refine y_icT (tgt := 58) k206_51 (by decide) c111 ?_
      refine y_iconst (v := 0) k206_58 oi_0 ?_
      obtain ⟨rfl, rfl⟩ := zpr hE
      exact y_zret k206_59 rfl (by decide)
    · rw [if_neg c111] at hE
      refine y_icF 58 k206_51 (by decide) c111 ?_
      refine y_iconst (v := 1) k206_54 oi_1 ?_
      refine y_goto (tgt := 59) k206_55 (by decide) ?_
      obtain ⟨rfl, rfl⟩ := zpr hE
      exact y_zret k206_59 rfl (by decide)
theorem F206_2 {L : Nat} {xs : Nat → Int32} {d : Nat} (K : Nat) : ∀ (n : Nat) (x1 : Int32) (g : zS) (r : Int32) (g' : zS) (hE : f206_2 K n x1 g = some (r, g')), zG2 L xs (d + 0) zm206 2 [some (.ref 222), some (.int x1)] [] g (some (.int r)) g' := by
  intro n
  induction n with
  | zero => intro x1  g r g' hE; cases hE
  | succ n ih =>
    intro x1  g r g' hE
    rw [f206_2] at hE
    refine y_iload_n k206_2 rfl ?_
    refine y_aload_n k206_3 rfl rfl ?_
    refine y_getI k206_4 fk_10_194 sh222 rfl ?_
    by_cases c114 : (g 222 29) ≤ x1
    · rw [if_pos c114] at hE
      refine y_icT (tgt := 31) k206_7 (by decide) c114 ?_
      exact F206_31 K x1 _ _ _ hE
    · rw [if_neg c114] at hE
      refine y_icF 31 k206_7 (by decide) c114 ?_
      refine y_aload_n k206_10 rfl rfl ?_
      refine y_getR k206_11 fk_10_51 sh222 rfl ?_
      refine y_iload_n k206_14 rfl ?_
      obtain ⟨hc, hE⟩ := zif_some hE
      refine y_iald k206_15 ar235 (zinN ln235 hc) ?_
      refine y_aload_n k206_16 rfl rfl ?_
      refine y_getR k206_17 fk_10_57 sh222 rfl ?_
      refine y_iload_n k206_20 rfl ?_
      obtain ⟨hc, hE⟩ := zif_some hE
      refine y_iald k206_21 ar237 (zinN ln237 hc) ?_
      by_cases c113 : ¬ (g 235 x1.toNatClampNeg) = (g 237 x1.toNatClampNeg)
      · rw [if_pos c113] at hE
        refine y_icT (tgt := 31) k206_22 (by decide) c113 ?_
        exact F206_31 K x1 _ _ _ hE
      · rw [if_neg c113] at hE
        refine y_icF 31 k206_22 (by decide) c113 ?_
        refine y_iinc (v := (x1 + 1)) (ls2 := [some (.ref 222), some (.int (x1 + 1))]) k206_25 rfl rfl (by rw [oi_1]) rfl ?_
        refine y_goto (tgt := 2) k206_28 (by decide) ?_
        exact ih (x1 + 1) _ _ _ hE
theorem F206 {L : Nat} {xs : Nat → Int32} (K : Nat) (g : zS) (r : Int32) (g' : zS) (hE : f206 K  g = some (r, g')) (d : Nat) : zE2 L xs (d + 1) 206 [.ref 222] g (some (.int r)) g' := by
  refine y_ev (n := 0) (d := d + 0) (ls := [some (.ref 222), none]) zm206_get (by decide) (Nat.le_of_ble_eq_true rfl) rfl ?_
  unfold f206 at hE
  refine y_iconst (v := 0) k206_0 oi_0 ?_
  refine y_istore_n (ls2 := [some (.ref 222), some (.int 0)]) k206_1 rfl (Nat.le_of_ble_eq_true rfl) rfl ?_
  exact F206_2 K K 0 _ _ _ hE
-- AdjectiveCouponsModel.bits
def f210_4 (K : Nat) : Nat → Int32 → Int32 → Int32 → zS → Option (Int32 × zS)
  | 0, _, _, _, _ => none
  | n + 1, x0, x1, x2, g => if 8 ≤ x2 then some (x1, g) else ((f210_4 K n) x0 (x1 + ((x0 >>> (x2 &&& 31)) &&& 1)) (x2 + 1) g)
def f210 (K : Nat) (x0 : Int32) (g : zS) : Option (Int32 × zS) := f210_4 K K x0 0 0 g
theorem F210_4 {L : Nat} {xs : Nat → Int32} {d : Nat} (K : Nat) : ∀ (n : Nat) (x0 : Int32) (x1 : Int32) (x2 : Int32) (g : zS) (r : Int32) (g' : zS) (hE : f210_4 K n x0 x1 x2 g = some (r, g')), zG2 L xs (d + 0) zm210 4 [some (.int x0), some (.int x1), some (.int x2)] [] g (some (.int r)) g' := by
  intro n
  induction n with
  | zero => intro x0 x1 x2  g r g' hE; cases hE
  | succ n ih =>
    intro x0 x1 x2  g r g' hE
    rw [f210_4] at hE
    refine y_iload_n k210_4 rfl ?_
    refine y_bipush (v := 8) k210_5 b8_8 ?_
    by_cases c104 : 8 ≤ x2
    · rw [if_pos c104] at hE
      refine y_icT (tgt := 24) k210_7 (by decide) c104 ?_
      refine y_iload_n k210_24 rfl ?_
      obtain ⟨rfl, rfl⟩ := zpr hE
      exact y_iret k210_25 rfl
    · rw [if_neg c104] at hE
      refine y_icF 24 k210_7 (by decide) c104 ?_
      refine y_iload_n k210_10 rfl ?_
      refine y_iload_n k210_11 rfl ?_
      refine y_iload_n k210_12 rfl ?_
      refine y_ishr k210_13 ?_
      refine y_iconst (v := 1) k210_14 oi_1 ?_
      refine y_iand k210_15 ?_
      refine y_iadd k210_16 ?_
      refine y_istore_n (ls2 := [some (.int x0), some (.int (x1 + ((x0 >>> (x2 &&& 31)) &&& 1))), some (.int x2)]) k210_17 rfl (Nat.le_of_ble_eq_true rfl) rfl ?_
      refine y_iinc (v := (x2 + 1)) (ls2 := [some (.int x0), some (.int (x1 + ((x0 >>> (x2 &&& 31)) &&& 1))), some (.int (x2 + 1))]) k210_18 rfl rfl (by rw [oi_1]) rfl ?_
      refine y_goto (tgt := 4) k210_21 (by decide) ?_
      exact ih x0 (x1 + ((x0 >>> (x2 &&& 31)) &&& 1)) (x2 + 1) _ _ _ hE
theorem F210 {L : Nat} {xs : Nat → Int32} (K : Nat) (x0 : Int32) (g : zS) (r : Int32) (g' : zS) (hE : f210 K x0 g = some (r, g')) (d : Nat) : zE2 L xs (d + 1) 210 [.int x0] g (some (.int r)) g' := by
  refine y_ev (n := 0) (d := d + 0) (ls := [some (.int x0), none, none]) zm210_get (by decide) (Nat.le_of_ble_eq_true rfl) rfl ?_
  unfold f210 at hE
  refine y_iconst (v := 0) k210_0 oi_0 ?_
  refine y_istore_n (ls2 := [some (.int x0), some (.int 0), none]) k210_1 rfl (Nat.le_of_ble_eq_true rfl) rfl ?_
  refine y_iconst (v := 0) k210_2 oi_0 ?_
  refine y_istore_n (ls2 := [some (.int x0), some (.int 0), some (.int 0)]) k210_3 rfl (Nat.le_of_ble_eq_true rfl) rfl ?_
  exact F210_4 K K x0 0 0 _ _ _ hE
-- AdjectiveCouponsModel.burn
def f215 (K : Nat) (g : zS) : Option (Int32 × zS) := some ((g 222 21), (zup g 222 21 0))
theorem F215 {L : Nat} {xs : Nat → Int32} (K : Nat) (g : zS) (r : Int32) (g' : zS) (hE : f215 K  g = some (r, g')) (d : Nat) : zE2 L xs (d + 1) 215 [.ref 222] g (some (.int r)) g' := by
  refine y_ev (n := 0) (d := d + 0) (ls := [some (.ref 222), none]) zm215_get (by decide) (Nat.le_of_ble_eq_true rfl) rfl ?_
  unfold f215 at hE
  refine y_aload_n k215_0 rfl rfl ?_
  refine y_getI k215_1 fk_10_188 sh222 rfl ?_
  refine y_istore_n (ls2 := [some (.ref 222), some (.int (g 222 21))]) k215_4 rfl (Nat.le_of_ble_eq_true rfl) rfl ?_
  refine y_aload_n k215_5 rfl rfl ?_
  refine y_iconst (v := 0) k215_6 oi_0 ?_
  refine y_putI k215_7 fk_10_188 sh222 rfl pi_10_21.1 pi_10_21.2 ?_
  refine y_iload_n k215_10 rfl ?_
  obtain ⟨rfl, rfl⟩ := zpr hE
  exact y_iret k215_11 rfl
-- AdjectiveCouponsModel.layDraft
def f217_2 (K : Nat) : Nat → Int32 → Int32 → zS → Option (Unit × zS)
  | 0, _, _, _ => none
  | n + 1, x1, x2, g => if zin x1 6 then if (g 234 x1.toNatClampNeg) ≤ x2 then if zin x1 6 then some ((), (zup g 222 29 (g 234 x1.toNatClampNeg))) else none else if zin ((8 * x1) + x2) 48 then if zin x2 8 then (f217_2 K n) x1 (x2 + 1) (zup g 235 x2.toNatClampNeg (g 233 ((8 * x1) + x2).toNatClampNeg)) else none else none else none
def f217 (K : Nat) (x1 : Int32) (g : zS) : Option (Unit × zS) := f217_2 K K x1 0 g
theorem F217_2 {L : Nat} {xs : Nat → Int32} {d : Nat} (K : Nat) : ∀ (n : Nat) (x1 : Int32) (x2 : Int32) (g : zS) (r : Unit) (g' : zS) (hE : f217_2 K n x1 x2 g = some (r, g')), zG2 L xs (d + 0) zm217 2 [some (.ref 222), some (.int x1), some (.int x2)] [] g none g' := by
  intro n
  induction n with
  | zero => intro x1 x2  g r g' hE; cases hE
  | succ n ih =>
    intro x1 x2  g r g' hE
    rw [f217_2] at hE
    refine y_iload_n k217_2 rfl ?_
    refine y_aload_n k217_3 rfl rfl ?_
    refine y_getR k217_4 fk_10_48 sh222 rfl ?_
    refine y_iload_n k217_7 rfl ?_
    obtain ⟨hc, hE⟩ := zif_some hE
    refine y_iald k217_8 ar234 (zinN ln234 hc) ?_
    by_cases c104 : (g 234 x1.toNatClampNeg) ≤ x2
    · rw [if_pos c104] at hE
      refine y_icT (tgt := 35) k217_9 (by decide) c104 ?_
      refine y_aload_n k217_35 rfl rfl ?_
      refine y_aload_n k217_36 rfl rfl ?_
      refine y_getR k217_37 fk_10_48 sh222 rfl ?_
      refine y_iload_n k217_40 rfl ?_
      obtain ⟨hc, hE⟩ := zif_some hE
      refine y_iald k217_41 ar234 (zinN ln234 hc) ?_
      refine y_putI k217_42 fk_10_194 sh222 rfl pi_10_29.1 pi_10_29.2 ?_
      obtain ⟨rfl, rfl⟩ := zpr hE
      exact y_vret k217_45 rfl
    · rw [if_neg c104] at hE
      refine y_icF 35 k217_9 (by decide) c104 ?_
      refine y_aload_n k217_12 rfl rfl ?_
      refine y_getR k217_13 fk_10_51 sh222 rfl ?_
      refine y_iload_n k217_16 rfl ?_
      refine y_aload_n k217_17 rfl rfl ?_
      refine y_getR k217_18 fk_10_45 sh222 rfl ?_
      refine y_bipush (v := 8) k217_21 b8_8 ?_
      refine y_iload_n k217_23 rfl ?_
      refine y_imul k217_24 ?_
      refine y_iload_n k217_25 rfl ?_
      refine y_iadd k217_26 ?_
      obtain ⟨hc, hE⟩ := zif_some hE
      refine y_iald k217_27 ar233 (zinN ln233 hc) ?_
      obtain ⟨hc, hE⟩ := zif_some hE
      refine y_iast k217_28 ar235 (zinN ln235 hc) ?_
      refine y_iinc (v := (x2 + 1)) (ls2 := [some (.ref 222), some (.int x1), some (.int (x2 + 1))]) k217_29 rfl rfl (by rw [oi_1]) rfl ?_
      refine y_goto (tgt := 2) k217_32 (by decide) ?_
      exact ih x1 (x2 + 1) _ _ _ hE
theorem F217 {L : Nat} {xs : Nat → Int32} (K : Nat) (x1 : Int32) (g : zS) (r : Unit) (g' : zS) (hE : f217 K x1 g = some (r, g')) (d : Nat) : zE2 L xs (d + 1) 217 [.ref 222, .int x1] g none g' := by
  refine y_ev (n := 0) (d := d + 0) (ls := [some (.ref 222), some (.int x1), none]) zm217_get (by decide) (Nat.le_of_ble_eq_true rfl) rfl ?_
  unfold f217 at hE
  refine y_iconst (v := 0) k217_0 oi_0 ?_
  refine y_istore_n (ls2 := [some (.ref 222), some (.int x1), some (.int 0)]) k217_1 rfl (Nat.le_of_ble_eq_true rfl) rfl ?_
  exact F217_2 K K x1 0 _ _ _ hE
-- AdjectiveCouponsModel.netOf
def f227_4 (K : Nat) : Nat → Int32 → Int32 → Int32 → zS → Option (Int32 × zS)
  | 0, _, _, _, _ => none
  | n + 1, x1, x2, x3, g => if 4 ≤ x3 then some (x2, g) else if zin ((57 + (4 * x3)) + x1) 803 then if zin ((57 + (4 * x1)) + x3) 803 then (f227_4 K n) x1 (x2 + ((g 223 ((57 + (4 * x3)) + x1).toNatClampNeg) - (g 223 ((57 + (4 * x1)) + x3).toNatClampNeg))) (x3 + 1) g else none else none
def f227 (K : Nat) (x1 : Int32) (g : zS) : Option (Int32 × zS) := f227_4 K K x1 0 0 g
theorem F227_4 {L : Nat} {xs : Nat → Int32} {d : Nat} (K : Nat) : ∀ (n : Nat) (x1 : Int32) (x2 : Int32) (x3 : Int32) (g : zS) (r : Int32) (g' : zS) (hE : f227_4 K n x1 x2 x3 g = some (r, g')), zG2 L xs (d + 0) zm227 4 [some (.ref 222), some (.int x1), some (.int x2), some (.int x3)] [] g (some (.int r)) g' := by
  intro n
  induction n with
  | zero => intro x1 x2 x3  g r g' hE; cases hE
  | succ n ih =>
    intro x1 x2 x3  g r g' hE
    rw [f227_4] at hE
    refine y_iload_n k227_4 rfl ?_
    refine y_iconst (v := 4) k227_5 oi_4 ?_
    by_cases c104 : 4 ≤ x3
    · rw [if_pos c104] at hE
      refine y_icT (tgt := 45) k227_6 (by decide) c104 ?_
      refine y_iload_n k227_45 rfl ?_
      obtain ⟨rfl, rfl⟩ := zpr hE
      exact y_iret k227_46 rfl
    · rw [if_neg c104] at hE
      refine y_icF 45 k227_6 (by decide) c104 ?_
      refine y_iload_n k227_9 rfl ?_
      refine y_aload_n k227_10 rfl rfl ?_
      refine y_getR k227_11 fk_10_7 sh222 rfl ?_
      refine y_bipush (v := 57) k227_14 b8_57 ?_
      refine y_iconst (v := 4) k227_16 oi_4 ?_
      refine y_iload_n k227_17 rfl ?_
      refine y_imul k227_18 ?_
      refine y_iadd k227_19 ?_
      refine y_iload_n k227_20 rfl ?_
      refine y_iadd k227_21 ?_
      obtain ⟨hc, hE⟩ := zif_some hE
      refine y_iald k227_22 ar223 (zinN ln223 hc) ?_
      refine y_aload_n k227_23 rfl rfl ?_
      refine y_getR k227_24 fk_10_7 sh222 rfl ?_
      refine y_bipush (v := 57) k227_27 b8_57 ?_
      refine y_iconst (v := 4) k227_29 oi_4 ?_
      refine y_iload_n k227_30 rfl ?_
      refine y_imul k227_31 ?_
      refine y_iadd k227_32 ?_
      refine y_iload_n k227_33 rfl ?_
      refine y_iadd k227_34 ?_
      obtain ⟨hc, hE⟩ := zif_some hE
      refine y_iald k227_35 ar223 (zinN ln223 hc) ?_
      refine y_isub k227_36 ?_
      refine y_iadd k227_37 ?_
      refine y_istore_n (ls2 := [some (.ref 222), some (.int x1), some (.int (x2 + ((g 223 ((57 + (4 * x3)) + x1).toNatClampNeg) - (g 223 ((57 + (4 * x1)) + x3).toNatClampNeg)))), some (.int x3)]) k227_38 rfl (Nat.le_of_ble_eq_true rfl) rfl ?_
      refine y_iinc (v := (x3 + 1)) (ls2 := [some (.ref 222), some (.int x1), some (.int (x2 + ((g 223 ((57 + (4 * x3)) + x1).toNatClampNeg) - (g 223 ((57 + (4 * x1)) + x3).toNatClampNeg)))), some (.int (x3 + 1))]) k227_39 rfl rfl (by rw [oi_1]) rfl ?_
      refine y_goto (tgt := 4) k227_42 (by decide) ?_
      exact ih x1 (x2 + ((g 223 ((57 + (4 * x3)) + x1).toNatClampNeg) - (g 223 ((57 + (4 * x1)) + x3).toNatClampNeg))) (x3 + 1) _ _ _ hE
theorem F227 {L : Nat} {xs : Nat → Int32} (K : Nat) (x1 : Int32) (g : zS) (r : Int32) (g' : zS) (hE : f227 K x1 g = some (r, g')) (d : Nat) : zE2 L xs (d + 1) 227 [.ref 222, .int x1] g (some (.int r)) g' := by
  refine y_ev (n := 0) (d := d + 0) (ls := [some (.ref 222), some (.int x1), none, none]) zm227_get (by decide) (Nat.le_of_ble_eq_true rfl) rfl ?_
  unfold f227 at hE
  refine y_iconst (v := 0) k227_0 oi_0 ?_
  refine y_istore_n (ls2 := [some (.ref 222), some (.int x1), some (.int 0), none]) k227_1 rfl (Nat.le_of_ble_eq_true rfl) rfl ?_
  refine y_iconst (v := 0) k227_2 oi_0 ?_
  refine y_istore_n (ls2 := [some (.ref 222), some (.int x1), some (.int 0), some (.int 0)]) k227_3 rfl (Nat.le_of_ble_eq_true rfl) rfl ?_
  exact F227_4 K K x1 0 0 _ _ _ hE
-- AdjectiveCouponsModel.count
def f230_7 (K : Nat) : Nat → Int32 → Int32 → Int32 → Int32 → zS → Option (Int32 × zS)
  | 0, _, _, _, _, _ => none
  | n + 1, x1, x2, x3, x4, g => if (g 222 14) ≤ x4 then if x1 = 0 then some ((g 222 9), g) else if x1 = 1 then some ((g 222 14), g) else if x1 = 2 then some ((g 222 11), g) else if x1 = 3 then some ((g 222 15), g) else if x1 = 4 then some ((g 222 16), g) else if x1 = 5 then if zin (0 : Int32) 803 then some ((g 223 (0 : Int32).toNatClampNeg), g) else none else if x1 = 6 then some ((g 222 18), g) else if x1 = 7 then some ((g 222 21), g) else if x1 = 8 then some ((g 222 1), g) else if x1 = 9 then some (x2, g) else if x1 = 10 then some (x3, g) else if x1 = 11 then some ((g 222 4), g) else (some ((-3), g)) else if zin (1 + x4) 803 then if zin (5 + x4) 803 then (f230_7 K n) x1 (x2 + (g 223 (1 + x4).toNatClampNeg)) (x3 + (g 223 (5 + x4).toNatClampNeg)) (x4 + 1) g else none else none
def f230 (K : Nat) (x1 : Int32) (g : zS) : Option (Int32 × zS) := f230_7 K K x1 0 0 0 g
theorem F230_7 {L : Nat} {xs : Nat → Int32} {d : Nat} (K : Nat) : ∀ (n : Nat) (x1 : Int32) (x2 : Int32) (x3 : Int32) (x4 : Int32) (g : zS) (r : Int32) (g' : zS) (hE : f230_7 K n x1 x2 x3 x4 g = some (r, g')), zG2 L xs (d + 0) zm230 7 [some (.ref 222), some (.int x1), some (.int x2), some (.int x3), some (.int x4)] [] g (some (.int r)) g' := by
  intro n
  induction n with
  | zero => intro x1 x2 x3 x4  g r g' hE; cases hE
  | succ n ih =>
    intro x1 x2 x3 x4  g r g' hE
    rw [f230_7] at hE
    refine y_iload k230_7 rfl ?_
    refine y_aload_n k230_9 rfl rfl ?_
    refine y_getI k230_10 fk_10_155 sh222 rfl ?_
    by_cases c152 : (g 222 14) ≤ x4
    · rw [if_pos c152] at hE
      refine y_icT (tgt := 46) k230_13 (by decide) c152 ?_
      refine y_iload_n k230_46 rfl ?_
      by_cases c140 : x1 = 0
      · rw [if_pos c140] at hE
        refine y_tsw (tgt := 108) (off := 61) 0 k230_47 c140 (by decide) (by decide) (by decide) (by decide) ?_
        refine y_aload_n k230_108 rfl rfl ?_
        refine y_getI k230_109 fk_10_149 sh222 rfl ?_
        obtain ⟨rfl, rfl⟩ := zpr hE
        exact y_iret k230_112 rfl
      · rw [if_neg c140] at hE
        by_cases c141 : x1 = 1
        · rw [if_pos c141] at hE
          refine y_tsw (tgt := 113) (off := 66) 1 k230_47 c141 (by decide) (by decide) (by decide) (by decide) ?_
          refine y_aload_n k230_113 rfl rfl ?_
          refine y_getI k230_114 fk_10_155 sh222 rfl ?_
          obtain ⟨rfl, rfl⟩ := zpr hE
          exact y_iret k230_117 rfl
        · rw [if_neg c141] at hE
          by_cases c142 : x1 = 2
          · rw [if_pos c142] at hE
            refine y_tsw (tgt := 118) (off := 71) 2 k230_47 c142 (by decide) (by decide) (by decide) (by decide) ?_
            refine y_aload_n k230_118 rfl rfl ?_
            refine y_getI k230_119 fk_10_152 sh222 rfl ?_
            obtain ⟨rfl, rfl⟩ := zpr hE
            exact y_iret k230_122 rfl
          · rw [if_neg c142] at hE
            by_cases c143 : x1 = 3
            · rw [if_pos c143] at hE
              refine y_tsw (tgt := 123) (off := 76) 3 k230_47 c143 (by decide) (by decide) (by decide) (by decide) ?_
              refine y_aload_n k230_123 rfl rfl ?_
              refine y_getI k230_124 fk_10_38 sh222 rfl ?_
              obtain ⟨rfl, rfl⟩ := zpr hE
              exact y_iret k230_127 rfl
            · rw [if_neg c143] at hE
              by_cases c144 : x1 = 4
              · rw [if_pos c144] at hE
                refine y_tsw (tgt := 128) (off := 81) 4 k230_47 c144 (by decide) (by decide) (by decide) (by decide) ?_
                refine y_aload_n k230_128 rfl rfl ?_
                refine y_getI k230_129 fk_10_162 sh222 rfl ?_
                obtain ⟨rfl, rfl⟩ := zpr hE
                exact y_iret k230_132 rfl
              · rw [if_neg c144] at hE
                by_cases c145 : x1 = 5
                · rw [if_pos c145] at hE
                  refine y_tsw (tgt := 133) (off := 86) 5 k230_47 c145 (by decide) (by decide) (by decide) (by decide) ?_
                  refine y_aload_n k230_133 rfl rfl ?_
                  refine y_getR k230_134 fk_10_7 sh222 rfl ?_
                  refine y_iconst (v := 0) k230_137 oi_0 ?_
                  obtain ⟨hc, hE⟩ := zif_some hE
                  refine y_iald k230_138 ar223 (zinN ln223 hc) ?_
                  obtain ⟨rfl, rfl⟩ := zpr hE
                  exact y_iret k230_139 rfl
                · rw [if_neg c145] at hE
                  by_cases c146 : x1 = 6
                  · rw [if_pos c146] at hE
                    refine y_tsw (tgt := 140) (off := 93) 6 k230_47 c146 (by decide) (by decide) (by decide) (by decide) ?_
                    refine y_aload_n k230_140 rfl rfl ?_
                    refine y_getI k230_141 fk_10_185 sh222 rfl ?_
                    obtain ⟨rfl, rfl⟩ := zpr hE
                    exact y_iret k230_144 rfl
                  · rw [if_neg c146] at hE
                    by_cases c147 : x1 = 7
                    · rw [if_pos c147] at hE
                      refine y_tsw (tgt := 145) (off := 98) 7 k230_47 c147 (by decide) (by decide) (by decide) (by decide) ?_
                      refine y_aload_n k230_145 rfl rfl ?_
                      refine y_getI k230_146 fk_10_188 sh222 rfl ?_
                      obtain ⟨rfl, rfl⟩ := zpr hE
                      exact y_iret k230_149 rfl
                    · rw [if_neg c147] at hE
                      by_cases c148 : x1 = 8
                      · rw [if_pos c148] at hE
                        refine y_tsw (tgt := 150) (off := 103) 8 k230_47 c148 (by decide) (by decide) (by decide) (by decide) ?_
                        refine y_aload_n k230_150 rfl rfl ?_
                        refine y_getI k230_151 fk_10_191 sh222 rfl ?_
                        obtain ⟨rfl, rfl⟩ := zpr hE
                        exact y_iret k230_154 rfl
                      · rw [if_neg c148] at hE
                        by_cases c149 : x1 = 9
                        · rw [if_pos c149] at hE
                          refine y_tsw (tgt := 155) (off := 108) 9 k230_47 c149 (by decide) (by decide) (by decide) (by decide) ?_
                          refine y_iload_n k230_155 rfl ?_
                          obtain ⟨rfl, rfl⟩ := zpr hE
                          exact y_iret k230_156 rfl
                        · rw [if_neg c149] at hE
                          by_cases c150 : x1 = 10
                          · rw [if_pos c150] at hE
                            refine y_tsw (tgt := 157) (off := 110) 10 k230_47 c150 (by decide) (by decide) (by decide) (by decide) ?_
                            refine y_iload_n k230_157 rfl ?_
                            obtain ⟨rfl, rfl⟩ := zpr hE
                            exact y_iret k230_158 rfl
                          · rw [if_neg c150] at hE
                            by_cases c151 : x1 = 11
                            · rw [if_pos c151] at hE
                              refine y_tsw (tgt := 159) (off := 112) 11 k230_47 c151 (by decide) (by decide) (by decide) (by decide) ?_
                              refine y_aload_n k230_159 rfl rfl ?_
                              refine y_getI k230_160 fk_10_69 sh222 rfl ?_
                              obtain ⟨rfl, rfl⟩ := zpr hE
                              exact y_iret k230_163 rfl
                            · rw [if_neg c151] at hE
                              have w47 : x1.toInt < 0 ∨ 11 < x1.toInt := by
                                have e0 := lv_neT (a := 0) c140 (by decide)
                                have e1 := lv_neT (a := 1) c141 (by decide)
                                have e2 := lv_neT (a := 2) c142 (by decide)
                                have e3 := lv_neT (a := 3) c143 (by decide)
                                have e4 := lv_neT (a := 4) c144 (by decide)
                                have e5 := lv_neT (a := 5) c145 (by decide)
                                have e6 := lv_neT (a := 6) c146 (by decide)
                                have e7 := lv_neT (a := 7) c147 (by decide)
                                have e8 := lv_neT (a := 8) c148 (by decide)
                                have e9 := lv_neT (a := 9) c149 (by decide)
                                have e10 := lv_neT (a := 10) c150 (by decide)
                                have e11 := lv_neT (a := 11) c151 (by decide)
                                omega
                              refine y_tswD (tgt := 164) k230_47 w47 (by decide) ?_
                              refine y_bipush (v := (-3)) k230_164 b8_m3 ?_
                              obtain ⟨rfl, rfl⟩ := zpr hE
                              exact y_iret k230_166 rfl
    · rw [if_neg c152] at hE
      refine y_icF 46 k230_13 (by decide) c152 ?_
      refine y_iload_n k230_16 rfl ?_
      refine y_aload_n k230_17 rfl rfl ?_
      refine y_getR k230_18 fk_10_7 sh222 rfl ?_
      refine y_iconst (v := 1) k230_21 oi_1 ?_
      refine y_iload k230_22 rfl ?_
      refine y_iadd k230_24 ?_
      obtain ⟨hc, hE⟩ := zif_some hE
      refine y_iald k230_25 ar223 (zinN ln223 hc) ?_
      refine y_iadd k230_26 ?_
      refine y_istore_n (ls2 := [some (.ref 222), some (.int x1), some (.int (x2 + (g 223 (1 + x4).toNatClampNeg))), some (.int x3), some (.int x4)]) k230_27 rfl (Nat.le_of_ble_eq_true rfl) rfl ?_
      refine y_iload_n k230_28 rfl ?_
      refine y_aload_n k230_29 rfl rfl ?_
      refine y_getR k230_30 fk_10_7 sh222 rfl ?_
      refine y_iconst (v := 5) k230_33 oi_5 ?_
      refine y_iload k230_34 rfl ?_
      refine y_iadd k230_36 ?_
      obtain ⟨hc, hE⟩ := zif_some hE
      refine y_iald k230_37 ar223 (zinN ln223 hc) ?_
      refine y_iadd k230_38 ?_
      refine y_istore_n (ls2 := [some (.ref 222), some (.int x1), some (.int (x2 + (g 223 (1 + x4).toNatClampNeg))), some (.int (x3 + (g 223 (5 + x4).toNatClampNeg))), some (.int x4)]) k230_39 rfl (Nat.le_of_ble_eq_true rfl) rfl ?_
      refine y_iinc (v := (x4 + 1)) (ls2 := [some (.ref 222), some (.int x1), some (.int (x2 + (g 223 (1 + x4).toNatClampNeg))), some (.int (x3 + (g 223 (5 + x4).toNatClampNeg))), some (.int (x4 + 1))]) k230_40 rfl rfl (by rw [oi_1]) rfl ?_
      refine y_goto (tgt := 7) k230_43 (by decide) ?_
      exact ih x1 (x2 + (g 223 (1 + x4).toNatClampNeg)) (x3 + (g 223 (5 + x4).toNatClampNeg)) (x4 + 1) _ _ _ hE
theorem F230 {L : Nat} {xs : Nat → Int32} (K : Nat) (x1 : Int32) (g : zS) (r : Int32) (g' : zS) (hE : f230 K x1 g = some (r, g')) (d : Nat) : zE2 L xs (d + 1) 230 [.ref 222, .int x1] g (some (.int r)) g' := by
  refine y_ev (n := 0) (d := d + 0) (ls := [some (.ref 222), some (.int x1), none, none, none]) zm230_get (by decide) (Nat.le_of_ble_eq_true rfl) rfl ?_
  unfold f230 at hE
  refine y_iconst (v := 0) k230_0 oi_0 ?_
  refine y_istore_n (ls2 := [some (.ref 222), some (.int x1), some (.int 0), none, none]) k230_1 rfl (Nat.le_of_ble_eq_true rfl) rfl ?_
  refine y_iconst (v := 0) k230_2 oi_0 ?_
  refine y_istore_n (ls2 := [some (.ref 222), some (.int x1), some (.int 0), some (.int 0), none]) k230_3 rfl (Nat.le_of_ble_eq_true rfl) rfl ?_
  refine y_iconst (v := 0) k230_4 oi_0 ?_
  refine y_istore (ls2 := [some (.ref 222), some (.int x1), some (.int 0), some (.int 0), some (.int 0)]) k230_5 rfl (Nat.le_of_ble_eq_true rfl) rfl ?_
  exact F230_7 K K x1 0 0 0 _ _ _ hE
-- AdjectiveCouponsModel.write
def f145 (K : Nat) (x1 : Int32) (g : zS) : Option (Int32 × zS) := zbd (f146 K x1.toInt64 0 255 g) fun r107 g106 => if ¬ r107 = 0 then if ¬ (g106 222 4) = 160 then if zin (g106 222 4) 160 then some (((zup (zup g106 225 (g106 222 4).toNatClampNeg x1) 222 4 (((zup g106 225 (g106 222 4).toNatClampNeg x1) 222 4) + 1)) 222 4), (zup (zup g106 225 (g106 222 4).toNatClampNeg x1) 222 4 (((zup g106 225 (g106 222 4).toNatClampNeg x1) 222 4) + 1))) else none else (some ((-5), g106)) else (some ((-3), g106))
theorem F145 {L : Nat} {xs : Nat → Int32} (K : Nat) (x1 : Int32) (g : zS) (r : Int32) (g' : zS) (hE : f145 K x1 g = some (r, g')) (d : Nat) : zE2 L xs (d + 2) 145 [.ref 222, .int x1] g (some (.int r)) g' := by
  refine y_ev (n := 0) (d := d + 1) (ls := [some (.ref 222), some (.int x1)]) zm145_get (by decide) (Nat.le_of_ble_eq_true rfl) rfl ?_
  unfold f145 at hE
  refine y_iload_n k145_0 rfl ?_
  refine y_i2l k145_1 ?_
  refine y_lconst (v := 0) k145_2 rfl ?_
  refine y_ldc2 (v := 255) k145_3 cl_10_63 ?_
  obtain ⟨r107, g106, hc108, hE⟩ := zbd_some hE
  refine y_invSi (j := 146) (As := [.long x1.toInt64, .long 0, .long 255]) (rest := []) (N := zm146) (F146 K x1.toInt64 0 255 _ r107 g106 hc108 (d + 0)) k145_6 lk_10_65 zm146_get na146 rfl (Nat.le_of_ble_eq_true rfl) ?_
  by_cases c110 : ¬ r107 = 0
  · rw [if_pos c110] at hE
    refine y_ifT (tgt := 15) k145_9 (by decide) c110 ?_
    refine y_aload_n k145_15 rfl rfl ?_
    refine y_getI k145_16 fk_10_69 sh222 rfl ?_
    refine y_sipush (v := 160) k145_19 s16_160 ?_
    by_cases c109 : ¬ (g106 222 4) = 160
    · rw [if_pos c109] at hE
      refine y_icT (tgt := 28) k145_22 (by decide) c109 ?_
      refine y_aload_n k145_28 rfl rfl ?_
      refine y_getR k145_29 fk_10_17 sh222 rfl ?_
      refine y_aload_n k145_32 rfl rfl ?_
      refine y_getI k145_33 fk_10_69 sh222 rfl ?_
      refine y_iload_n k145_36 rfl ?_
      obtain ⟨hc, hE⟩ := zif_some hE
      refine y_iast k145_37 ar225 (zinN ln225 hc) ?_
      refine y_aload_n k145_38 rfl rfl ?_
      refine y_dup k145_39 rfl ?_
      refine y_getI k145_40 fk_10_69 sh222 rfl ?_
      refine y_iconst (v := 1) k145_43 oi_1 ?_
      refine y_iadd k145_44 ?_
      refine y_putI k145_45 fk_10_69 sh222 rfl pi_10_4.1 pi_10_4.2 ?_
      refine y_aload_n k145_48 rfl rfl ?_
      refine y_getI k145_49 fk_10_69 sh222 rfl ?_
      obtain ⟨rfl, rfl⟩ := zpr hE
      exact y_iret k145_52 rfl
    · rw [if_neg c109] at hE
      refine y_icF 28 k145_22 (by decide) c109 ?_
      refine y_bipush (v := (-5)) k145_25 b8_m5 ?_
      obtain ⟨rfl, rfl⟩ := zpr hE
      exact y_iret k145_27 rfl
  · rw [if_neg c110] at hE
    refine y_ifF 15 k145_9 (by decide) c110 ?_
    refine y_bipush (v := (-3)) k145_12 b8_m3 ?_
    obtain ⟨rfl, rfl⟩ := zpr hE
    exact y_iret k145_14 rfl
-- AdjectiveCouponsModel.token
def f149_71 (K : Nat) : Nat → zS → Option (Unit × zS)
  | 0, _ => none
  | n + 1, g => if (g 222 4) ≤ (g 222 22) then some ((), (zup g 222 24 (g 222 22))) else if zin (g 222 23) 160 then zbd (f150 K (g 225 (g 222 23).toNatClampNeg) g) fun r144 g143 => if r144 ≤ 0 then some ((), (zup g143 222 24 (g143 222 22))) else if zin (g143 222 22) 160 then zbd (f150 K (g143 225 (g143 222 22).toNatClampNeg) g143) fun r147 g146 => if zin (g146 222 23) 160 then zbd (f150 K (g146 225 (g146 222 23).toNatClampNeg) g146) fun r150 g149 => if ¬ r147 = r150 then some ((), (zup g149 222 24 (g149 222 22))) else ((f149_71 K n)  (zup g149 222 22 ((g149 222 22) + 1))) else none else none else none
def f149_67 (K : Nat) (xs1 : Int32) (xs2 : Int32) (g : zS) : Option (Unit × zS) := f149_71 K K  (zup g 222 22 (xs1 + xs2))
def f149_38 (K : Nat) (g : zS) : Option (Unit × zS) := if ((zup g 222 23 (g 222 22)) 222 4) ≤ ((zup g 222 23 (g 222 22)) 222 22) then f149_67 K ((zup g 222 23 (g 222 22)) 222 22) 0 (zup g 222 23 (g 222 22)) else (f149_67 K ((zup g 222 23 (g 222 22)) 222 22) 1 (zup g 222 23 (g 222 22)))
def f149_0 (K : Nat) : Nat → zS → Option (Unit × zS)
  | 0, _ => none
  | n + 1, g => if (g 222 4) ≤ (g 222 22) then f149_38 K  g else if zin (g 222 22) 160 then if ¬ (g 225 (g 222 22).toNatClampNeg) = 32 then f149_38 K  g else ((f149_0 K n)  (zup g 222 22 ((g 222 22) + 1))) else none
def f149 (K : Nat) (g : zS) : Option (Unit × zS) := f149_0 K K  g
theorem F149_71 {L : Nat} {xs : Nat → Int32} {d : Nat} (K : Nat) : ∀ (n : Nat) (g : zS) (r : Unit) (g' : zS) (hE : f149_71 K n  g = some (r, g')), zG2 L xs (d + 1) zm149 71 [some (.ref 222)] [] g none g' := by
  intro n
  induction n with
  | zero => intro   g r g' hE; cases hE
  | succ n ih =>
    intro   g r g' hE
    rw [f149_71] at hE
    refine y_aload_n k149_71 rfl rfl ?_
    refine y_getI k149_72 fk_10_72 sh222 rfl ?_
    refine y_aload_n k149_75 rfl rfl ?_
    refine y_getI k149_76 fk_10_69 sh222 rfl ?_
    by_cases c154 : (g 222 4) ≤ (g 222 22)
    · rw [if_pos c154] at hE
      refine y_icT (tgt := 137) k149_79 (by decide) c154 ?_
      refine y_aload_n k149_137 rfl rfl ?_
      refine y_aload_n k149_138 rfl rfl ?_
      refine y_getI k149_139 fk_10_72 sh222 rfl ?_
      refine y_putI k149_142 fk_10_82 sh222 rfl pi_10_24.1 pi_10_24.2 ?_
      obtain ⟨rfl, rfl⟩ := zpr hE
      exact y_vret k149_145 rfl
    · rw [if_neg c154] at hE
      refine y_icF 137 k149_79 (by decide) c154 ?_
      refine y_aload_n k149_82 rfl rfl ?_
      refine y_getR k149_83 fk_10_17 sh222 rfl ?_
      refine y_aload_n k149_86 rfl rfl ?_
      refine y_getI k149_87 fk_10_75 sh222 rfl ?_
      obtain ⟨hc, hE⟩ := zif_some hE
      refine y_iald k149_90 ar225 (zinN ln225 hc) ?_
      obtain ⟨r144, g143, hc145, hE⟩ := zbd_some hE
      refine y_invSi (j := 150) (As := [.int (g 225 (g 222 23).toNatClampNeg)]) (rest := []) (N := zm150) (F150 K (g 225 (g 222 23).toNatClampNeg) _ r144 g143 hc145 (d + 0)) k149_91 lk_10_78 zm150_get na150 rfl (Nat.le_of_ble_eq_true rfl) ?_
      by_cases c153 : r144 ≤ 0
      · rw [if_pos c153] at hE
        refine y_ifT (tgt := 137) k149_94 (by decide) c153 ?_
        refine y_aload_n k149_137 rfl rfl ?_
        refine y_aload_n k149_138 rfl rfl ?_
        refine y_getI k149_139 fk_10_72 sh222 rfl ?_
        refine y_putI k149_142 fk_10_82 sh222 rfl pi_10_24.1 pi_10_24.2 ?_
        obtain ⟨rfl, rfl⟩ := zpr hE
        exact y_vret k149_145 rfl
      · rw [if_neg c153] at hE
        refine y_ifF 137 k149_94 (by decide) c153 ?_
        refine y_aload_n k149_97 rfl rfl ?_
        refine y_getR k149_98 fk_10_17 sh222 rfl ?_
        refine y_aload_n k149_101 rfl rfl ?_
        refine y_getI k149_102 fk_10_72 sh222 rfl ?_
        obtain ⟨hc, hE⟩ := zif_some hE
        refine y_iald k149_105 ar225 (zinN ln225 hc) ?_
        obtain ⟨r147, g146, hc148, hE⟩ := zbd_some hE
        refine y_invSi (j := 150) (As := [.int (g143 225 (g143 222 22).toNatClampNeg)]) (rest := []) (N := zm150) (F150 K (g143 225 (g143 222 22).toNatClampNeg) _ r147 g146 hc148 (d + 0)) k149_106 lk_10_78 zm150_get na150 rfl (Nat.le_of_ble_eq_true rfl) ?_
        refine y_aload_n k149_109 rfl rfl ?_
        refine y_getR k149_110 fk_10_17 sh222 rfl ?_
        refine y_aload_n k149_113 rfl rfl ?_
        refine y_getI k149_114 fk_10_75 sh222 rfl ?_
        obtain ⟨hc, hE⟩ := zif_some hE
        refine y_iald k149_117 ar225 (zinN ln225 hc) ?_
        obtain ⟨r150, g149, hc151, hE⟩ := zbd_some hE
        refine y_invSi (j := 150) (As := [.int (g146 225 (g146 222 23).toNatClampNeg)]) (rest := [.int r147]) (N := zm150) (F150 K (g146 225 (g146 222 23).toNatClampNeg) _ r150 g149 hc151 (d + 0)) k149_118 lk_10_78 zm150_get na150 rfl (Nat.le_of_ble_eq_true rfl) ?_
        by_cases c152 : ¬ r147 = r150
        · rw [if_pos c152] at hE
          refine y_icT (tgt := 137) k149_121 (by decide) c152 ?_
          refine y_aload_n k149_137 rfl rfl ?_
          refine y_aload_n k149_138 rfl rfl ?_
          refine y_getI k149_139 fk_10_72 sh222 rfl ?_
          refine y_putI k149_142 fk_10_82 sh222 rfl pi_10_24.1 pi_10_24.2 ?_
          obtain ⟨rfl, rfl⟩ := zpr hE
          exact y_vret k149_145 rfl
        · rw [if_neg c152] at hE
          refine y_icF 137 k149_121 (by decide) c152 ?_
          refine y_aload_n k149_124 rfl rfl ?_
          refine y_dup k149_125 rfl ?_
          refine y_getI k149_126 fk_10_72 sh222 rfl ?_
          refine y_iconst (v := 1) k149_129 oi_1 ?_
          refine y_iadd k149_130 ?_
          refine y_putI k149_131 fk_10_72 sh222 rfl pi_10_22.1 pi_10_22.2 ?_
          refine y_goto (tgt := 71) k149_134 (by decide) ?_
          exact ih  _ _ _ hE
theorem F149_67 {L : Nat} {xs : Nat → Int32} {d : Nat} (K : Nat) (xs1 : Int32) (xs2 : Int32) (g : zS) (r : Unit) (g' : zS) (hE : f149_67 K xs1 xs2 g = some (r, g')) : zG2 L xs (d + 1) zm149 67 [some (.ref 222)] [.int xs2, .int xs1, .ref 222] g none g' := by
  unfold f149_67 at hE
  refine y_iadd k149_67 ?_
  refine y_putI k149_68 fk_10_72 sh222 rfl pi_10_22.1 pi_10_22.2 ?_
  exact F149_71 K K  _ _ _ hE
theorem F149_38 {L : Nat} {xs : Nat → Int32} {d : Nat} (K : Nat) (g : zS) (r : Unit) (g' : zS) (hE : f149_38 K  g = some (r, g')) : zG2 L xs (d + 1) zm149 38 [some (.ref 222)] [] g none g' := by
  unfold f149_38 at hE
  refine y_aload_n k149_38 rfl rfl ?_
  refine y_aload_n k149_39 rfl rfl ?_
  refine y_getI k149_40 fk_10_72 sh222 rfl ?_
  refine y_putI k149_43 fk_10_75 sh222 rfl pi_10_23.1 pi_10_23.2 ?_
  refine y_aload_n k149_46 rfl rfl ?_
  refine y_dup k149_47 rfl ?_
  refine y_getI k149_48 fk_10_72 sh222 rfl ?_
  refine y_aload_n k149_51 rfl rfl ?_
  refine y_getI k149_52 fk_10_72 sh222 rfl ?_
  refine y_aload_n k149_55 rfl rfl ?_
  refine y_getI k149_56 fk_10_69 sh222 rfl ?_
  by_cases c155 : ((zup g 222 23 (g 222 22)) 222 4) ≤ ((zup g 222 23 (g 222 22)) 222 22)
  · rw [if_pos c155] at hE
    refine y_icT (tgt := 66) k149_59 (by decide) c155 ?_
    refine y_iconst (v := 0) k149_66 oi_0 ?_
    exact F149_67 K ((zup g 222 23 (g 222 22)) 222 22) 0 _ _ _ hE
  · rw [if_neg c155] at hE
    refine y_icF 66 k149_59 (by decide) c155 ?_
    refine y_iconst (v := 1) k149_62 oi_1 ?_
    refine y_goto (tgt := 67) k149_63 (by decide) ?_
    exact F149_67 K ((zup g 222 23 (g 222 22)) 222 22) 1 _ _ _ hE
theorem F149_0 {L : Nat} {xs : Nat → Int32} {d : Nat} (K : Nat) : ∀ (n : Nat) (g : zS) (r : Unit) (g' : zS) (hE : f149_0 K n  g = some (r, g')), zG2 L xs (d + 1) zm149 0 [some (.ref 222)] [] g none g' := by
  intro n
  induction n with
  | zero => intro   g r g' hE; cases hE
  | succ n ih =>
    intro   g r g' hE
    rw [f149_0] at hE
    refine y_aload_n k149_0 rfl rfl ?_
    refine y_getI k149_1 fk_10_72 sh222 rfl ?_
    refine y_aload_n k149_4 rfl rfl ?_
    refine y_getI k149_5 fk_10_69 sh222 rfl ?_
    by_cases c157 : (g 222 4) ≤ (g 222 22)
    · rw [if_pos c157] at hE
      refine y_icT (tgt := 38) k149_8 (by decide) c157 ?_
      exact F149_38 K  _ _ _ hE
    · rw [if_neg c157] at hE
      refine y_icF 38 k149_8 (by decide) c157 ?_
      refine y_aload_n k149_11 rfl rfl ?_
      refine y_getR k149_12 fk_10_17 sh222 rfl ?_
      refine y_aload_n k149_15 rfl rfl ?_
      refine y_getI k149_16 fk_10_72 sh222 rfl ?_
      obtain ⟨hc, hE⟩ := zif_some hE
      refine y_iald k149_19 ar225 (zinN ln225 hc) ?_
      refine y_bipush (v := 32) k149_20 b8_32 ?_
      by_cases c156 : ¬ (g 225 (g 222 22).toNatClampNeg) = 32
      · rw [if_pos c156] at hE
        refine y_icT (tgt := 38) k149_22 (by decide) c156 ?_
        exact F149_38 K  _ _ _ hE
      · rw [if_neg c156] at hE
        refine y_icF 38 k149_22 (by decide) c156 ?_
        refine y_aload_n k149_25 rfl rfl ?_
        refine y_dup k149_26 rfl ?_
        refine y_getI k149_27 fk_10_72 sh222 rfl ?_
        refine y_iconst (v := 1) k149_30 oi_1 ?_
        refine y_iadd k149_31 ?_
        refine y_putI k149_32 fk_10_72 sh222 rfl pi_10_22.1 pi_10_22.2 ?_
        refine y_goto (tgt := 0) k149_35 (by decide) ?_
        exact ih  _ _ _ hE
theorem F149 {L : Nat} {xs : Nat → Int32} (K : Nat) (g : zS) (r : Unit) (g' : zS) (hE : f149 K  g = some (r, g')) (d : Nat) : zE2 L xs (d + 2) 149 [.ref 222] g none g' := by
  refine y_ev (n := 0) (d := d + 1) (ls := [some (.ref 222)]) zm149_get (by decide) (Nat.le_of_ble_eq_true rfl) rfl ?_
  unfold f149 at hE
  exact F149_0 K K  _ _ _ hE
-- AdjectiveCouponsModel.kindWord
def f153 (K : Nat) (g : zS) : Option (Int32 × zS) := zbd (f154 K 480750 4 0 g) fun r122 g121 => if r122 = 0 then zbd (f154 K 14976400 5 0 g121) fun r125 g124 => if r125 = 0 then zbd (f154 K 626504163 6 0 g124) fun r128 g127 => if r128 = 0 then zbd (f154 K 208936 4 0 g127) fun r131 g130 => if r131 = 0 then zbd (f154 K 177198 4 0 g130) fun r134 g133 => if r134 = 0 then some ((-1), g133) else (some (5, g133)) else (some (4, g130)) else (some (3, g127)) else (some (2, g124)) else (some (1, g121))
theorem F153 {L : Nat} {xs : Nat → Int32} (K : Nat) (g : zS) (r : Int32) (g' : zS) (hE : f153 K  g = some (r, g')) (d : Nat) : zE2 L xs (d + 2) 153 [.ref 222] g (some (.int r)) g' := by
  refine y_ev (n := 0) (d := d + 1) (ls := [some (.ref 222)]) zm153_get (by decide) (Nat.le_of_ble_eq_true rfl) rfl ?_
  unfold f153 at hE
  refine y_aload_n k153_0 rfl rfl ?_
  refine y_ldc (v := 480750) k153_1 ci_10_85 ?_
  refine y_iconst (v := 4) k153_3 oi_4 ?_
  refine y_iconst (v := 0) k153_4 oi_0 ?_
  obtain ⟨r122, g121, hc123, hE⟩ := zbd_some hE
  refine y_invVi (j := 154) (As := [.int 480750, .int 4, .int 0]) (rest := []) (N := zm154) (F154 K 480750 4 0 _ r122 g121 hc123 (d + 0)) k153_5 lk_10_86 zm154_get na154 rfl (Nat.le_of_ble_eq_true rfl) sh222 (by decide) rfl ?_
  by_cases c140 : r122 = 0
  · rw [if_pos c140] at hE
    refine y_ifT (tgt := 15) k153_8 (by decide) c140 ?_
    refine y_aload_n k153_15 rfl rfl ?_
    refine y_ldc (v := 14976400) k153_16 ci_10_90 ?_
    refine y_iconst (v := 5) k153_18 oi_5 ?_
    refine y_iconst (v := 0) k153_19 oi_0 ?_
    obtain ⟨r125, g124, hc126, hE⟩ := zbd_some hE
    refine y_invVi (j := 154) (As := [.int 14976400, .int 5, .int 0]) (rest := []) (N := zm154) (F154 K 14976400 5 0 _ r125 g124 hc126 (d + 0)) k153_20 lk_10_86 zm154_get na154 rfl (Nat.le_of_ble_eq_true rfl) sh222 (by decide) rfl ?_
    by_cases c139 : r125 = 0
    · rw [if_pos c139] at hE
      refine y_ifT (tgt := 30) k153_23 (by decide) c139 ?_
      refine y_aload_n k153_30 rfl rfl ?_
      refine y_ldc (v := 626504163) k153_31 ci_10_91 ?_
      refine y_bipush (v := 6) k153_33 b8_6 ?_
      refine y_iconst (v := 0) k153_35 oi_0 ?_
      obtain ⟨r128, g127, hc129, hE⟩ := zbd_some hE
      refine y_invVi (j := 154) (As := [.int 626504163, .int 6, .int 0]) (rest := []) (N := zm154) (F154 K 626504163 6 0 _ r128 g127 hc129 (d + 0)) k153_36 lk_10_86 zm154_get na154 rfl (Nat.le_of_ble_eq_true rfl) sh222 (by decide) rfl ?_
      by_cases c138 : r128 = 0
      · rw [if_pos c138] at hE
        refine y_ifT (tgt := 46) k153_39 (by decide) c138 ?_
        refine y_aload_n k153_46 rfl rfl ?_
        refine y_ldc (v := 208936) k153_47 ci_10_92 ?_
        refine y_iconst (v := 4) k153_49 oi_4 ?_
        refine y_iconst (v := 0) k153_50 oi_0 ?_
        obtain ⟨r131, g130, hc132, hE⟩ := zbd_some hE
        refine y_invVi (j := 154) (As := [.int 208936, .int 4, .int 0]) (rest := []) (N := zm154) (F154 K 208936 4 0 _ r131 g130 hc132 (d + 0)) k153_51 lk_10_86 zm154_get na154 rfl (Nat.le_of_ble_eq_true rfl) sh222 (by decide) rfl ?_
        by_cases c137 : r131 = 0
        · rw [if_pos c137] at hE
          refine y_ifT (tgt := 61) k153_54 (by decide) c137 ?_
          refine y_aload_n k153_61 rfl rfl ?_
          refine y_ldc (v := 177198) k153_62 ci_10_93 ?_
          refine y_iconst (v := 4) k153_64 oi_4 ?_
          refine y_iconst (v := 0) k153_65 oi_0 ?_
          obtain ⟨r134, g133, hc135, hE⟩ := zbd_some hE
          refine y_invVi (j := 154) (As := [.int 177198, .int 4, .int 0]) (rest := []) (N := zm154) (F154 K 177198 4 0 _ r134 g133 hc135 (d + 0)) k153_66 lk_10_86 zm154_get na154 rfl (Nat.le_of_ble_eq_true rfl) sh222 (by decide) rfl ?_
          by_cases c136 : r134 = 0
          · rw [if_pos c136] at hE
            refine y_ifT (tgt := 76) k153_69 (by decide) c136 ?_
            refine y_iconst (v := (-1)) k153_76 oi_m1 ?_
            obtain ⟨rfl, rfl⟩ := zpr hE
            exact y_iret k153_77 rfl
          · rw [if_neg c136] at hE
            refine y_ifF 76 k153_69 (by decide) c136 ?_
            refine y_iconst (v := 5) k153_72 oi_5 ?_
            refine y_goto (tgt := 77) k153_73 (by decide) ?_
            obtain ⟨rfl, rfl⟩ := zpr hE
            exact y_iret k153_77 rfl
        · rw [if_neg c137] at hE
          refine y_ifF 61 k153_54 (by decide) c137 ?_
          refine y_iconst (v := 4) k153_57 oi_4 ?_
          refine y_goto (tgt := 77) k153_58 (by decide) ?_
          obtain ⟨rfl, rfl⟩ := zpr hE
          exact y_iret k153_77 rfl
      · rw [if_neg c138] at hE
        refine y_ifF 46 k153_39 (by decide) c138 ?_
        refine y_iconst (v := 3) k153_42 oi_3 ?_
        refine y_goto (tgt := 77) k153_43 (by decide) ?_
        obtain ⟨rfl, rfl⟩ := zpr hE
        exact y_iret k153_77 rfl
    · rw [if_neg c139] at hE
      refine y_ifF 30 k153_23 (by decide) c139 ?_
      refine y_iconst (v := 2) k153_26 oi_2 ?_
      refine y_goto (tgt := 77) k153_27 (by decide) ?_
      obtain ⟨rfl, rfl⟩ := zpr hE
      exact y_iret k153_77 rfl
  · rw [if_neg c140] at hE
    refine y_ifF 15 k153_8 (by decide) c140 ?_
    refine y_iconst (v := 1) k153_11 oi_1 ?_
    refine y_goto (tgt := 77) k153_12 (by decide) ?_
    obtain ⟨rfl, rfl⟩ := zpr hE
    exact y_iret k153_77 rfl
-- AdjectiveCouponsModel.folkWord
def f155 (K : Nat) (g : zS) : Option (Int32 × zS) := zbd (f154 K 195350819 7 14 g) fun r118 g117 => if r118 = 0 then zbd (f154 K 19061228 5 0 g117) fun r121 g120 => if r121 = 0 then zbd (f154 K 110765635 6 0 g120) fun r124 g123 => if r124 = 0 then zbd (f154 K 660976 4 0 g123) fun r127 g126 => if r127 = 0 then some ((-1), g126) else (some (10, g126)) else (some (9, g123)) else (some (8, g120)) else (some (7, g117))
theorem F155 {L : Nat} {xs : Nat → Int32} (K : Nat) (g : zS) (r : Int32) (g' : zS) (hE : f155 K  g = some (r, g')) (d : Nat) : zE2 L xs (d + 2) 155 [.ref 222] g (some (.int r)) g' := by
  refine y_ev (n := 0) (d := d + 1) (ls := [some (.ref 222)]) zm155_get (by decide) (Nat.le_of_ble_eq_true rfl) rfl ?_
  unfold f155 at hE
  refine y_aload_n k155_0 rfl rfl ?_
  refine y_ldc (v := 195350819) k155_1 ci_10_94 ?_
  refine y_bipush (v := 7) k155_3 b8_7 ?_
  refine y_bipush (v := 14) k155_5 b8_14 ?_
  obtain ⟨r118, g117, hc119, hE⟩ := zbd_some hE
  refine y_invVi (j := 154) (As := [.int 195350819, .int 7, .int 14]) (rest := []) (N := zm154) (F154 K 195350819 7 14 _ r118 g117 hc119 (d + 0)) k155_7 lk_10_86 zm154_get na154 rfl (Nat.le_of_ble_eq_true rfl) sh222 (by decide) rfl ?_
  by_cases c132 : r118 = 0
  · rw [if_pos c132] at hE
    refine y_ifT (tgt := 18) k155_10 (by decide) c132 ?_
    refine y_aload_n k155_18 rfl rfl ?_
    refine y_ldc (v := 19061228) k155_19 ci_10_95 ?_
    refine y_iconst (v := 5) k155_21 oi_5 ?_
    refine y_iconst (v := 0) k155_22 oi_0 ?_
    obtain ⟨r121, g120, hc122, hE⟩ := zbd_some hE
    refine y_invVi (j := 154) (As := [.int 19061228, .int 5, .int 0]) (rest := []) (N := zm154) (F154 K 19061228 5 0 _ r121 g120 hc122 (d + 0)) k155_23 lk_10_86 zm154_get na154 rfl (Nat.le_of_ble_eq_true rfl) sh222 (by decide) rfl ?_
    by_cases c131 : r121 = 0
    · rw [if_pos c131] at hE
      refine y_ifT (tgt := 34) k155_26 (by decide) c131 ?_
      refine y_aload_n k155_34 rfl rfl ?_
      refine y_ldc (v := 110765635) k155_35 ci_10_96 ?_
      refine y_bipush (v := 6) k155_37 b8_6 ?_
      refine y_iconst (v := 0) k155_39 oi_0 ?_
      obtain ⟨r124, g123, hc125, hE⟩ := zbd_some hE
      refine y_invVi (j := 154) (As := [.int 110765635, .int 6, .int 0]) (rest := []) (N := zm154) (F154 K 110765635 6 0 _ r124 g123 hc125 (d + 0)) k155_40 lk_10_86 zm154_get na154 rfl (Nat.le_of_ble_eq_true rfl) sh222 (by decide) rfl ?_
      by_cases c130 : r124 = 0
      · rw [if_pos c130] at hE
        refine y_ifT (tgt := 51) k155_43 (by decide) c130 ?_
        refine y_aload_n k155_51 rfl rfl ?_
        refine y_ldc (v := 660976) k155_52 ci_10_97 ?_
        refine y_iconst (v := 4) k155_54 oi_4 ?_
        refine y_iconst (v := 0) k155_55 oi_0 ?_
        obtain ⟨r127, g126, hc128, hE⟩ := zbd_some hE
        refine y_invVi (j := 154) (As := [.int 660976, .int 4, .int 0]) (rest := []) (N := zm154) (F154 K 660976 4 0 _ r127 g126 hc128 (d + 0)) k155_56 lk_10_86 zm154_get na154 rfl (Nat.le_of_ble_eq_true rfl) sh222 (by decide) rfl ?_
        by_cases c129 : r127 = 0
        · rw [if_pos c129] at hE
          refine y_ifT (tgt := 67) k155_59 (by decide) c129 ?_
          refine y_iconst (v := (-1)) k155_67 oi_m1 ?_
          obtain ⟨rfl, rfl⟩ := zpr hE
          exact y_iret k155_68 rfl
        · rw [if_neg c129] at hE
          refine y_ifF 67 k155_59 (by decide) c129 ?_
          refine y_bipush (v := 10) k155_62 b8_10 ?_
          refine y_goto (tgt := 68) k155_64 (by decide) ?_
          obtain ⟨rfl, rfl⟩ := zpr hE
          exact y_iret k155_68 rfl
      · rw [if_neg c130] at hE
        refine y_ifF 51 k155_43 (by decide) c130 ?_
        refine y_bipush (v := 9) k155_46 b8_9 ?_
        refine y_goto (tgt := 68) k155_48 (by decide) ?_
        obtain ⟨rfl, rfl⟩ := zpr hE
        exact y_iret k155_68 rfl
    · rw [if_neg c131] at hE
      refine y_ifF 34 k155_26 (by decide) c131 ?_
      refine y_bipush (v := 8) k155_29 b8_8 ?_
      refine y_goto (tgt := 68) k155_31 (by decide) ?_
      obtain ⟨rfl, rfl⟩ := zpr hE
      exact y_iret k155_68 rfl
  · rw [if_neg c132] at hE
    refine y_ifF 18 k155_10 (by decide) c132 ?_
    refine y_bipush (v := 7) k155_13 b8_7 ?_
    refine y_goto (tgt := 68) k155_15 (by decide) ?_
    obtain ⟨rfl, rfl⟩ := zpr hE
    exact y_iret k155_68 rfl
-- AdjectiveCouponsModel.isKindWord
def f156 (K : Nat) (x0 : Int32) (g : zS) : Option (Int32 × zS) := zbd (f146 K x0.toInt64 1 5 g) fun r105 g104 => if r105 = 0 ∨ r105 = 1 then some (r105, g104) else none
theorem F156 {L : Nat} {xs : Nat → Int32} (K : Nat) (x0 : Int32) (g : zS) (r : Int32) (g' : zS) (hE : f156 K x0 g = some (r, g')) (d : Nat) : zE2 L xs (d + 2) 156 [.int x0] g (some (.int r)) g' := by
  refine y_ev (n := 0) (d := d + 1) (ls := [some (.int x0)]) zm156_get (by decide) (Nat.le_of_ble_eq_true rfl) rfl ?_
  unfold f156 at hE
  refine y_iload_n k156_0 rfl ?_
  refine y_i2l k156_1 ?_
  refine y_lconst (v := 1) k156_2 rfl ?_
  refine y_ldc2 (v := 5) k156_3 cl_10_118 ?_
  obtain ⟨r105, g104, hc106, hE⟩ := zbd_some hE
  refine y_invSi (j := 146) (As := [.long x0.toInt64, .long 1, .long 5]) (rest := []) (N := zm146) (F146 K x0.toInt64 1 5 _ r105 g104 hc106 (d + 0)) k156_6 lk_10_65 zm146_get na146 rfl (Nat.le_of_ble_eq_true rfl) ?_
  obtain ⟨hc, hE⟩ := zif_some hE
  obtain ⟨rfl, rfl⟩ := zpr hE
  exact y_zret k156_9 rfl hc
-- AdjectiveCouponsModel.isFolkWord
def f157 (K : Nat) (x0 : Int32) (g : zS) : Option (Int32 × zS) := zbd (f146 K x0.toInt64 7 10 g) fun r105 g104 => if r105 = 0 ∨ r105 = 1 then some (r105, g104) else none
theorem F157 {L : Nat} {xs : Nat → Int32} (K : Nat) (x0 : Int32) (g : zS) (r : Int32) (g' : zS) (hE : f157 K x0 g = some (r, g')) (d : Nat) : zE2 L xs (d + 2) 157 [.int x0] g (some (.int r)) g' := by
  refine y_ev (n := 0) (d := d + 1) (ls := [some (.int x0)]) zm157_get (by decide) (Nat.le_of_ble_eq_true rfl) rfl ?_
  unfold f157 at hE
  refine y_iload_n k157_0 rfl ?_
  refine y_i2l k157_1 ?_
  refine y_ldc2 (v := 7) k157_2 cl_10_120 ?_
  refine y_ldc2 (v := 10) k157_5 cl_10_122 ?_
  obtain ⟨r105, g104, hc106, hE⟩ := zbd_some hE
  refine y_invSi (j := 146) (As := [.long x0.toInt64, .long 7, .long 10]) (rest := []) (N := zm146) (F146 K x0.toInt64 7 10 _ r105 g104 hc106 (d + 0)) k157_8 lk_10_65 zm146_get na146 rfl (Nat.le_of_ble_eq_true rfl) ?_
  obtain ⟨hc, hE⟩ := zif_some hE
  obtain ⟨rfl, rfl⟩ := zpr hE
  exact y_zret k157_11 rfl hc
-- AdjectiveCouponsModel.isWordThere
def f167 (K : Nat) (x1 : Int32) (g : zS) : Option (Int32 × zS) := zbd (f146 K x1.toInt64 0 (((g 222 9) - 1).toInt64) g) fun r105 g104 => if r105 = 0 ∨ r105 = 1 then some (r105, g104) else none
theorem F167 {L : Nat} {xs : Nat → Int32} (K : Nat) (x1 : Int32) (g : zS) (r : Int32) (g' : zS) (hE : f167 K x1 g = some (r, g')) (d : Nat) : zE2 L xs (d + 2) 167 [.ref 222, .int x1] g (some (.int r)) g' := by
  refine y_ev (n := 0) (d := d + 1) (ls := [some (.ref 222), some (.int x1)]) zm167_get (by decide) (Nat.le_of_ble_eq_true rfl) rfl ?_
  unfold f167 at hE
  refine y_iload_n k167_0 rfl ?_
  refine y_i2l k167_1 ?_
  refine y_lconst (v := 0) k167_2 rfl ?_
  refine y_aload_n k167_3 rfl rfl ?_
  refine y_getI k167_4 fk_10_149 sh222 rfl ?_
  refine y_iconst (v := 1) k167_7 oi_1 ?_
  refine y_isub k167_8 ?_
  refine y_i2l k167_9 ?_
  obtain ⟨r105, g104, hc106, hE⟩ := zbd_some hE
  refine y_invSi (j := 146) (As := [.long x1.toInt64, .long 0, .long (((g 222 9) - 1).toInt64)]) (rest := []) (N := zm146) (F146 K x1.toInt64 0 (((g 222 9) - 1).toInt64) _ r105 g104 hc106 (d + 0)) k167_10 lk_10_65 zm146_get na146 rfl (Nat.le_of_ble_eq_true rfl) ?_
  obtain ⟨hc, hE⟩ := zif_some hE
  obtain ⟨rfl, rfl⟩ := zpr hE
  exact y_zret k167_13 rfl hc
-- AdjectiveCouponsModel.isOne
def f170 (K : Nat) (x1 : Int32) (g : zS) : Option (Int32 × zS) := zbd (f146 K x1.toInt64 0 (((g 222 14) - 1).toInt64) g) fun r105 g104 => if r105 = 0 ∨ r105 = 1 then some (r105, g104) else none
theorem F170 {L : Nat} {xs : Nat → Int32} (K : Nat) (x1 : Int32) (g : zS) (r : Int32) (g' : zS) (hE : f170 K x1 g = some (r, g')) (d : Nat) : zE2 L xs (d + 2) 170 [.ref 222, .int x1] g (some (.int r)) g' := by
  refine y_ev (n := 0) (d := d + 1) (ls := [some (.ref 222), some (.int x1)]) zm170_get (by decide) (Nat.le_of_ble_eq_true rfl) rfl ?_
  unfold f170 at hE
  refine y_iload_n k170_0 rfl ?_
  refine y_i2l k170_1 ?_
  refine y_lconst (v := 0) k170_2 rfl ?_
  refine y_aload_n k170_3 rfl rfl ?_
  refine y_getI k170_4 fk_10_155 sh222 rfl ?_
  refine y_iconst (v := 1) k170_7 oi_1 ?_
  refine y_isub k170_8 ?_
  refine y_i2l k170_9 ?_
  obtain ⟨r105, g104, hc106, hE⟩ := zbd_some hE
  refine y_invSi (j := 146) (As := [.long x1.toInt64, .long 0, .long (((g 222 14) - 1).toInt64)]) (rest := []) (N := zm146) (F146 K x1.toInt64 0 (((g 222 14) - 1).toInt64) _ r105 g104 hc106 (d + 0)) k170_10 lk_10_65 zm146_get na146 rfl (Nat.le_of_ble_eq_true rfl) ?_
  obtain ⟨hc, hE⟩ := zif_some hE
  obtain ⟨rfl, rfl⟩ := zpr hE
  exact y_zret k170_13 rfl hc
-- AdjectiveCouponsModel.layKinds
def f175_40 (K : Nat) (k2 : Int32 → Int32 → zS → Option (Unit × zS)) (x1 : Int32) (x2 : Int32) (xs1 : Int32) (xs2 : Int32) (g : zS) : Option (Unit × zS) := if zin xs1 8 then k2 x1 (x2 + 1) (zup g 236 xs1.toNatClampNeg xs2) else none
def f175_2 (K : Nat) : Nat → Int32 → Int32 → zS → Option (Unit × zS)
  | 0, _, _, _ => none
  | n + 1, x1, x2, g => if (g 222 29) ≤ x2 then some ((), g) else if zin x2 8 then if ¬ (g 235 x2.toNatClampNeg) = (-1) then if zin x2 8 then zbd (f168 K (g 235 x2.toNatClampNeg) x1 g) fun r117 g116 => f175_40 K (f175_2 K n) x1 x2 x2 r117 g116 else none else (f175_40 K (f175_2 K n) x1 x2 x2 (-1) g) else none
def f175 (K : Nat) (x1 : Int32) (g : zS) : Option (Unit × zS) := f175_2 K K x1 0 g
theorem F175_40 {L : Nat} {xs : Nat → Int32} {d : Nat} (K : Nat) (k2 : Int32 → Int32 → zS → Option (Unit × zS)) (hk2 : ∀ (x1 : Int32) (x2 : Int32) (g : zS) (r : Unit) (g' : zS), k2 x1 x2 g = some (r, g') → zG2 L xs (d + 1) zm175 2 [some (.ref 222), some (.int x1), some (.int x2)] [] g none g') (x1 : Int32) (x2 : Int32) (xs1 : Int32) (xs2 : Int32) (g : zS) (r : Unit) (g' : zS) (hE : f175_40 K k2 x1 x2 xs1 xs2 g = some (r, g')) : zG2 L xs (d + 1) zm175 40 [some (.ref 222), some (.int x1), some (.int x2)] [.int xs2, .int xs1, .ref 236] g none g' := by
  unfold f175_40 at hE
  obtain ⟨hc, hE⟩ := zif_some hE
  refine y_iast k175_40 ar236 (zinN ln236 hc) ?_
  refine y_iinc (v := (x2 + 1)) (ls2 := [some (.ref 222), some (.int x1), some (.int (x2 + 1))]) k175_41 rfl rfl (by rw [oi_1]) rfl ?_
  refine y_goto (tgt := 2) k175_44 (by decide) ?_
  exact hk2 x1 (x2 + 1) _ _ _ hE
theorem F175_2 {L : Nat} {xs : Nat → Int32} {d : Nat} (K : Nat) : ∀ (n : Nat) (x1 : Int32) (x2 : Int32) (g : zS) (r : Unit) (g' : zS) (hE : f175_2 K n x1 x2 g = some (r, g')), zG2 L xs (d + 1) zm175 2 [some (.ref 222), some (.int x1), some (.int x2)] [] g none g' := by
  intro n
  induction n with
  | zero => intro x1 x2  g r g' hE; cases hE
  | succ n ih =>
    intro x1 x2  g r g' hE
    rw [f175_2] at hE
    refine y_iload_n k175_2 rfl ?_
    refine y_aload_n k175_3 rfl rfl ?_
    refine y_getI k175_4 fk_10_194 sh222 rfl ?_
    by_cases c120 : (g 222 29) ≤ x2
    · rw [if_pos c120] at hE
      refine y_icT (tgt := 47) k175_7 (by decide) c120 ?_
      obtain ⟨rfl, rfl⟩ := zpr hE
      exact y_vret k175_47 rfl
    · rw [if_neg c120] at hE
      refine y_icF 47 k175_7 (by decide) c120 ?_
      refine y_aload_n k175_10 rfl rfl ?_
      refine y_getR k175_11 fk_10_54 sh222 rfl ?_
      refine y_iload_n k175_14 rfl ?_
      refine y_aload_n k175_15 rfl rfl ?_
      refine y_getR k175_16 fk_10_51 sh222 rfl ?_
      refine y_iload_n k175_19 rfl ?_
      obtain ⟨hc, hE⟩ := zif_some hE
      refine y_iald k175_20 ar235 (zinN ln235 hc) ?_
      refine y_iconst (v := (-1)) k175_21 oi_m1 ?_
      by_cases c119 : ¬ (g 235 x2.toNatClampNeg) = (-1)
      · rw [if_pos c119] at hE
        refine y_icT (tgt := 29) k175_22 (by decide) c119 ?_
        refine y_aload_n k175_29 rfl rfl ?_
        refine y_aload_n k175_30 rfl rfl ?_
        refine y_getR k175_31 fk_10_51 sh222 rfl ?_
        refine y_iload_n k175_34 rfl ?_
        obtain ⟨hc, hE⟩ := zif_some hE
        refine y_iald k175_35 ar235 (zinN ln235 hc) ?_
        refine y_iload_n k175_36 rfl ?_
        obtain ⟨r117, g116, hc118, hE⟩ := zbd_some hE
        refine y_invVi (j := 168) (As := [.int (g 235 x2.toNatClampNeg), .int x1]) (rest := [.int x2, .ref 236]) (N := zm168) (F168 K (g 235 x2.toNatClampNeg) x1 _ r117 g116 hc118 (d + 0)) k175_37 lk_10_197 zm168_get na168 rfl (Nat.le_of_ble_eq_true rfl) sh222 (by decide) rfl ?_
        exact F175_40 K (f175_2 K n) ih x1 x2 x2 r117 _ _ _ hE
      · rw [if_neg c119] at hE
        refine y_icF 29 k175_22 (by decide) c119 ?_
        refine y_iconst (v := (-1)) k175_25 oi_m1 ?_
        refine y_goto (tgt := 40) k175_26 (by decide) ?_
        exact F175_40 K (f175_2 K n) ih x1 x2 x2 (-1) _ _ _ hE
theorem F175 {L : Nat} {xs : Nat → Int32} (K : Nat) (x1 : Int32) (g : zS) (r : Unit) (g' : zS) (hE : f175 K x1 g = some (r, g')) (d : Nat) : zE2 L xs (d + 2) 175 [.ref 222, .int x1] g none g' := by
  refine y_ev (n := 0) (d := d + 1) (ls := [some (.ref 222), some (.int x1), none]) zm175_get (by decide) (Nat.le_of_ble_eq_true rfl) rfl ?_
  unfold f175 at hE
  refine y_iconst (v := 0) k175_0 oi_0 ?_
  refine y_istore_n (ls2 := [some (.ref 222), some (.int x1), some (.int 0)]) k175_1 rfl (Nat.le_of_ble_eq_true rfl) rfl ?_
  exact F175_2 K K x1 0 _ _ _ hE
-- AdjectiveCouponsModel.isAdjective
def f178 (K : Nat) (x1 : Int32) (g : zS) : Option (Int32 × zS) := if zin x1 8 then zbd (f146 K ((g 236 x1.toNatClampNeg).toInt64) 1 3 g) fun r105 g104 => if r105 = 0 ∨ r105 = 1 then some (r105, g104) else none else none
theorem F178 {L : Nat} {xs : Nat → Int32} (K : Nat) (x1 : Int32) (g : zS) (r : Int32) (g' : zS) (hE : f178 K x1 g = some (r, g')) (d : Nat) : zE2 L xs (d + 2) 178 [.ref 222, .int x1] g (some (.int r)) g' := by
  refine y_ev (n := 0) (d := d + 1) (ls := [some (.ref 222), some (.int x1)]) zm178_get (by decide) (Nat.le_of_ble_eq_true rfl) rfl ?_
  unfold f178 at hE
  refine y_aload_n k178_0 rfl rfl ?_
  refine y_getR k178_1 fk_10_54 sh222 rfl ?_
  refine y_iload_n k178_4 rfl ?_
  obtain ⟨hc, hE⟩ := zif_some hE
  refine y_iald k178_5 ar236 (zinN ln236 hc) ?_
  refine y_i2l k178_6 ?_
  refine y_lconst (v := 1) k178_7 rfl ?_
  refine y_ldc2 (v := 3) k178_8 cl_10_201 ?_
  obtain ⟨r105, g104, hc106, hE⟩ := zbd_some hE
  refine y_invSi (j := 146) (As := [.long ((g 236 x1.toNatClampNeg).toInt64), .long 1, .long 3]) (rest := []) (N := zm146) (F146 K ((g 236 x1.toNatClampNeg).toInt64) 1 3 _ r105 g104 hc106 (d + 0)) k178_11 lk_10_65 zm146_get na146 rfl (Nat.le_of_ble_eq_true rfl) ?_
  obtain ⟨hc, hE⟩ := zif_some hE
  obtain ⟨rfl, rfl⟩ := zpr hE
  exact y_zret k178_14 rfl hc
-- AdjectiveCouponsModel.line
def f182 (K : Nat) (x1 : Int32) (g : zS) : Option (Int32 × zS) := zbd (f146 K x1.toInt64 0 (((g 222 18) - 1).toInt64) g) fun r106 g105 => if r106 = 0 then some ((-3), g105) else if zin x1 8 then some ((g105 232 x1.toNatClampNeg), g105) else none
theorem F182 {L : Nat} {xs : Nat → Int32} (K : Nat) (x1 : Int32) (g : zS) (r : Int32) (g' : zS) (hE : f182 K x1 g = some (r, g')) (d : Nat) : zE2 L xs (d + 2) 182 [.ref 222, .int x1] g (some (.int r)) g' := by
  refine y_ev (n := 0) (d := d + 1) (ls := [some (.ref 222), some (.int x1)]) zm182_get (by decide) (Nat.le_of_ble_eq_true rfl) rfl ?_
  unfold f182 at hE
  refine y_iload_n k182_0 rfl ?_
  refine y_i2l k182_1 ?_
  refine y_lconst (v := 0) k182_2 rfl ?_
  refine y_aload_n k182_3 rfl rfl ?_
  refine y_getI k182_4 fk_10_185 sh222 rfl ?_
  refine y_iconst (v := 1) k182_7 oi_1 ?_
  refine y_isub k182_8 ?_
  refine y_i2l k182_9 ?_
  obtain ⟨r106, g105, hc107, hE⟩ := zbd_some hE
  refine y_invSi (j := 146) (As := [.long x1.toInt64, .long 0, .long (((g 222 18) - 1).toInt64)]) (rest := []) (N := zm146) (F146 K x1.toInt64 0 (((g 222 18) - 1).toInt64) _ r106 g105 hc107 (d + 0)) k182_10 lk_10_65 zm146_get na146 rfl (Nat.le_of_ble_eq_true rfl) ?_
  by_cases c108 : r106 = 0
  · rw [if_pos c108] at hE
    refine y_ifT (tgt := 25) k182_13 (by decide) c108 ?_
    refine y_bipush (v := (-3)) k182_25 b8_m3 ?_
    obtain ⟨rfl, rfl⟩ := zpr hE
    exact y_iret k182_27 rfl
  · rw [if_neg c108] at hE
    refine y_ifF 25 k182_13 (by decide) c108 ?_
    refine y_aload_n k182_16 rfl rfl ?_
    refine y_getR k182_17 fk_10_42 sh222 rfl ?_
    refine y_iload_n k182_20 rfl ?_
    obtain ⟨hc, hE⟩ := zif_some hE
    refine y_iald k182_21 ar232 (zinN ln232 hc) ?_
    refine y_goto (tgt := 27) k182_22 (by decide) ?_
    obtain ⟨rfl, rfl⟩ := zpr hE
    exact y_iret k182_27 rfl
-- AdjectiveCouponsModel.keepPast
def f188_66 (K : Nat) (xs1 : Int32) (xs2 : Int32) (g : zS) : Option (Unit × zS) := zbd (f189 K 0 (219 + (73 * ((zup g 222 1 (xs1 - xs2)) 222 1))) (zup g 222 1 (xs1 - xs2))) fun _ g118 => some ((), (zup g118 222 1 ((g118 222 1) + 1)))
def f188_47 (K : Nat) (g : zS) : Option (Unit × zS) := if ¬ (g 222 1) = 8 then f188_66 K (g 222 1) 0 g else (f188_66 K (g 222 1) 1 g)
def f188_2 (K : Nat) : Nat → Int32 → zS → Option (Unit × zS)
  | 0, _, _ => none
  | n + 1, x1, g => if 511 ≤ x1 then f188_47 K  g else if ¬ (g 222 1) = 8 then f188_47 K  g else if zin ((219 + x1) + 73) 803 then if zin (219 + x1) 803 then (f188_2 K n) (x1 + 1) (zup g 223 (219 + x1).toNatClampNeg (g 223 ((219 + x1) + 73).toNatClampNeg)) else none else none
def f188 (K : Nat) (g : zS) : Option (Unit × zS) := f188_2 K K 0 g
theorem F188_66 {L : Nat} {xs : Nat → Int32} {d : Nat} (K : Nat) (xs1 : Int32) (xs2 : Int32) (g : zS) (r : Unit) (g' : zS) (hE : f188_66 K xs1 xs2 g = some (r, g')) : zG2 L xs (d + 1) zm188 66 [some (.ref 222), none] [.int xs2, .int xs1, .ref 222] g none g' := by
  unfold f188_66 at hE
  refine y_isub k188_66 ?_
  refine y_putI k188_67 fk_10_191 sh222 rfl pi_10_1.1 pi_10_1.2 ?_
  refine y_aload_n k188_70 rfl rfl ?_
  refine y_iconst (v := 0) k188_71 oi_0 ?_
  refine y_sipush (v := 219) k188_72 s16_219 ?_
  refine y_bipush (v := 73) k188_75 b8_73 ?_
  refine y_aload_n k188_77 rfl rfl ?_
  refine y_getI k188_78 fk_10_191 sh222 rfl ?_
  refine y_imul k188_81 ?_
  refine y_iadd k188_82 ?_
  obtain ⟨u119, g118, hc120, hE⟩ := zbd_some hE
  refine y_invVv (j := 189) (As := [.int 0, .int (219 + (73 * ((zup g 222 1 (xs1 - xs2)) 222 1)))]) (rest := []) (N := zm189) (F189 K 0 (219 + (73 * ((zup g 222 1 (xs1 - xs2)) 222 1))) _ u119 g118 hc120 (d + 0)) k188_83 lk_10_244 zm189_get na189 rfl (Nat.le_of_ble_eq_true rfl) sh222 (by decide) rfl ?_
  refine y_aload_n k188_86 rfl rfl ?_
  refine y_dup k188_87 rfl ?_
  refine y_getI k188_88 fk_10_191 sh222 rfl ?_
  refine y_iconst (v := 1) k188_91 oi_1 ?_
  refine y_iadd k188_92 ?_
  refine y_putI k188_93 fk_10_191 sh222 rfl pi_10_1.1 pi_10_1.2 ?_
  obtain ⟨rfl, rfl⟩ := zpr hE
  exact y_vret k188_96 rfl
theorem F188_47 {L : Nat} {xs : Nat → Int32} {d : Nat} (K : Nat) (g : zS) (r : Unit) (g' : zS) (hE : f188_47 K  g = some (r, g')) : zG2 L xs (d + 1) zm188 47 [some (.ref 222), none] [] g none g' := by
  unfold f188_47 at hE
  refine y_aload_n k188_47 rfl rfl ?_
  refine y_dup k188_48 rfl ?_
  refine y_getI k188_49 fk_10_191 sh222 rfl ?_
  refine y_aload_n k188_52 rfl rfl ?_
  refine y_getI k188_53 fk_10_191 sh222 rfl ?_
  refine y_bipush (v := 8) k188_56 b8_8 ?_
  by_cases c121 : ¬ (g 222 1) = 8
  · rw [if_pos c121] at hE
    refine y_icT (tgt := 65) k188_58 (by decide) c121 ?_
    refine y_iconst (v := 0) k188_65 oi_0 ?_
    exact F188_66 K (g 222 1) 0 _ _ _ hE
  · rw [if_neg c121] at hE
    refine y_icF 65 k188_58 (by decide) c121 ?_
    refine y_iconst (v := 1) k188_61 oi_1 ?_
    refine y_goto (tgt := 66) k188_62 (by decide) ?_
    exact F188_66 K (g 222 1) 1 _ _ _ hE
theorem F188_2 {L : Nat} {xs : Nat → Int32} {d : Nat} (K : Nat) : ∀ (n : Nat) (x1 : Int32) (g : zS) (r : Unit) (g' : zS) (hE : f188_2 K n x1 g = some (r, g')), zG2 L xs (d + 1) zm188 2 [some (.ref 222), some (.int x1)] [] g none g' := by
  intro n
  induction n with
  | zero => intro x1  g r g' hE; cases hE
  | succ n ih =>
    intro x1  g r g' hE
    rw [f188_2] at hE
    refine y_iload_n k188_2 rfl ?_
    refine y_sipush (v := 511) k188_3 s16_511 ?_
    by_cases c123 : 511 ≤ x1
    · rw [if_pos c123] at hE
      refine y_icT (tgt := 47) k188_6 (by decide) c123 ?_
      exact y_weak (ls0 := [some (.ref 222), none]) ⟨rfl, rfl, trivial⟩ (F188_47 K  _ _ _ hE)
    · rw [if_neg c123] at hE
      refine y_icF 47 k188_6 (by decide) c123 ?_
      refine y_aload_n k188_9 rfl rfl ?_
      refine y_getI k188_10 fk_10_191 sh222 rfl ?_
      refine y_bipush (v := 8) k188_13 b8_8 ?_
      by_cases c122 : ¬ (g 222 1) = 8
      · rw [if_pos c122] at hE
        refine y_icT (tgt := 47) k188_15 (by decide) c122 ?_
        exact y_weak (ls0 := [some (.ref 222), none]) ⟨rfl, rfl, trivial⟩ (F188_47 K  _ _ _ hE)
      · rw [if_neg c122] at hE
        refine y_icF 47 k188_15 (by decide) c122 ?_
        refine y_aload_n k188_18 rfl rfl ?_
        refine y_getR k188_19 fk_10_7 sh222 rfl ?_
        refine y_sipush (v := 219) k188_22 s16_219 ?_
        refine y_iload_n k188_25 rfl ?_
        refine y_iadd k188_26 ?_
        refine y_aload_n k188_27 rfl rfl ?_
        refine y_getR k188_28 fk_10_7 sh222 rfl ?_
        refine y_sipush (v := 219) k188_31 s16_219 ?_
        refine y_iload_n k188_34 rfl ?_
        refine y_iadd k188_35 ?_
        refine y_bipush (v := 73) k188_36 b8_73 ?_
        refine y_iadd k188_38 ?_
        obtain ⟨hc, hE⟩ := zif_some hE
        refine y_iald k188_39 ar223 (zinN ln223 hc) ?_
        obtain ⟨hc, hE⟩ := zif_some hE
        refine y_iast k188_40 ar223 (zinN ln223 hc) ?_
        refine y_iinc (v := (x1 + 1)) (ls2 := [some (.ref 222), some (.int (x1 + 1))]) k188_41 rfl rfl (by rw [oi_1]) rfl ?_
        refine y_goto (tgt := 2) k188_44 (by decide) ?_
        exact ih (x1 + 1) _ _ _ hE
theorem F188 {L : Nat} {xs : Nat → Int32} (K : Nat) (g : zS) (r : Unit) (g' : zS) (hE : f188 K  g = some (r, g')) (d : Nat) : zE2 L xs (d + 2) 188 [.ref 222] g none g' := by
  refine y_ev (n := 0) (d := d + 1) (ls := [some (.ref 222), none]) zm188_get (by decide) (Nat.le_of_ble_eq_true rfl) rfl ?_
  unfold f188 at hE
  refine y_iconst (v := 0) k188_0 oi_0 ?_
  refine y_istore_n (ls2 := [some (.ref 222), some (.int 0)]) k188_1 rfl (Nat.le_of_ble_eq_true rfl) rfl ?_
  exact F188_2 K K 0 _ _ _ hE
-- AdjectiveCouponsModel.undo
def f197 (K : Nat) (g : zS) : Option (Int32 × zS) := if ¬ (g 222 1) = 0 then zbd (f189 K (219 + (73 * ((zup g 222 1 ((g 222 1) - 1)) 222 1))) 0 (zup g 222 1 ((g 222 1) - 1))) fun _ g105 => some ((g105 222 1), g105) else (some ((-4), g))
theorem F197 {L : Nat} {xs : Nat → Int32} (K : Nat) (g : zS) (r : Int32) (g' : zS) (hE : f197 K  g = some (r, g')) (d : Nat) : zE2 L xs (d + 2) 197 [.ref 222] g (some (.int r)) g' := by
  refine y_ev (n := 0) (d := d + 1) (ls := [some (.ref 222)]) zm197_get (by decide) (Nat.le_of_ble_eq_true rfl) rfl ?_
  unfold f197 at hE
  refine y_aload_n k197_0 rfl rfl ?_
  refine y_getI k197_1 fk_10_191 sh222 rfl ?_
  by_cases c108 : ¬ (g 222 1) = 0
  · rw [if_pos c108] at hE
    refine y_ifT (tgt := 10) k197_4 (by decide) c108 ?_
    refine y_aload_n k197_10 rfl rfl ?_
    refine y_dup k197_11 rfl ?_
    refine y_getI k197_12 fk_10_191 sh222 rfl ?_
    refine y_iconst (v := 1) k197_15 oi_1 ?_
    refine y_isub k197_16 ?_
    refine y_putI k197_17 fk_10_191 sh222 rfl pi_10_1.1 pi_10_1.2 ?_
    refine y_aload_n k197_20 rfl rfl ?_
    refine y_sipush (v := 219) k197_21 s16_219 ?_
    refine y_bipush (v := 73) k197_24 b8_73 ?_
    refine y_aload_n k197_26 rfl rfl ?_
    refine y_getI k197_27 fk_10_191 sh222 rfl ?_
    refine y_imul k197_30 ?_
    refine y_iadd k197_31 ?_
    refine y_iconst (v := 0) k197_32 oi_0 ?_
    obtain ⟨u106, g105, hc107, hE⟩ := zbd_some hE
    refine y_invVv (j := 189) (As := [.int (219 + (73 * ((zup g 222 1 ((g 222 1) - 1)) 222 1))), .int 0]) (rest := []) (N := zm189) (F189 K (219 + (73 * ((zup g 222 1 ((g 222 1) - 1)) 222 1))) 0 _ u106 g105 hc107 (d + 0)) k197_33 lk_10_244 zm189_get na189 rfl (Nat.le_of_ble_eq_true rfl) sh222 (by decide) rfl ?_
    refine y_aload_n k197_36 rfl rfl ?_
    refine y_getI k197_37 fk_10_191 sh222 rfl ?_
    obtain ⟨rfl, rfl⟩ := zpr hE
    exact y_iret k197_40 rfl
  · rw [if_neg c108] at hE
    refine y_ifF 10 k197_4 (by decide) c108 ?_
    refine y_bipush (v := (-4)) k197_7 b8_m4 ?_
    obtain ⟨rfl, rfl⟩ := zpr hE
    exact y_iret k197_9 rfl
-- AdjectiveCouponsModel.keep
def f198 (K : Nat) (x1 : Int32) (g : zS) : Option (Int32 × zS) := zbd (f146 K x1.toInt64 0 1 g) fun r109 g108 => if ¬ r109 = 0 then zbd (f189 K 0 (73 * (1 + x1)) g108) fun _ g111 => if zin x1 2 then if zin (0 : Int32) 803 then some (((zup g111 224 x1.toNatClampNeg 1) 223 (0 : Int32).toNatClampNeg), (zup g111 224 x1.toNatClampNeg 1)) else none else none else (some ((-2), g108))
theorem F198 {L : Nat} {xs : Nat → Int32} (K : Nat) (x1 : Int32) (g : zS) (r : Int32) (g' : zS) (hE : f198 K x1 g = some (r, g')) (d : Nat) : zE2 L xs (d + 2) 198 [.ref 222, .int x1] g (some (.int r)) g' := by
  refine y_ev (n := 0) (d := d + 1) (ls := [some (.ref 222), some (.int x1)]) zm198_get (by decide) (Nat.le_of_ble_eq_true rfl) rfl ?_
  unfold f198 at hE
  refine y_iload_n k198_0 rfl ?_
  refine y_i2l k198_1 ?_
  refine y_lconst (v := 0) k198_2 rfl ?_
  refine y_lconst (v := 1) k198_3 rfl ?_
  obtain ⟨r109, g108, hc110, hE⟩ := zbd_some hE
  refine y_invSi (j := 146) (As := [.long x1.toInt64, .long 0, .long 1]) (rest := []) (N := zm146) (F146 K x1.toInt64 0 1 _ r109 g108 hc110 (d + 0)) k198_4 lk_10_65 zm146_get na146 rfl (Nat.le_of_ble_eq_true rfl) ?_
  by_cases c114 : ¬ r109 = 0
  · rw [if_pos c114] at hE
    refine y_ifT (tgt := 13) k198_7 (by decide) c114 ?_
    refine y_aload_n k198_13 rfl rfl ?_
    refine y_iconst (v := 0) k198_14 oi_0 ?_
    refine y_bipush (v := 73) k198_15 b8_73 ?_
    refine y_iconst (v := 1) k198_17 oi_1 ?_
    refine y_iload_n k198_18 rfl ?_
    refine y_iadd k198_19 ?_
    refine y_imul k198_20 ?_
    obtain ⟨u112, g111, hc113, hE⟩ := zbd_some hE
    refine y_invVv (j := 189) (As := [.int 0, .int (73 * (1 + x1))]) (rest := []) (N := zm189) (F189 K 0 (73 * (1 + x1)) _ u112 g111 hc113 (d + 0)) k198_21 lk_10_244 zm189_get na189 rfl (Nat.le_of_ble_eq_true rfl) sh222 (by decide) rfl ?_
    refine y_aload_n k198_24 rfl rfl ?_
    refine y_getR k198_25 fk_10_13 sh222 rfl ?_
    refine y_iload_n k198_28 rfl ?_
    refine y_iconst (v := 1) k198_29 oi_1 ?_
    obtain ⟨hc, hE⟩ := zif_some hE
    refine y_bast k198_30 bo224 (zinN ln224 hc) (by decide) ?_
    refine y_aload_n k198_31 rfl rfl ?_
    refine y_getR k198_32 fk_10_7 sh222 rfl ?_
    refine y_iconst (v := 0) k198_35 oi_0 ?_
    obtain ⟨hc, hE⟩ := zif_some hE
    refine y_iald k198_36 ar223 (zinN ln223 hc) ?_
    obtain ⟨rfl, rfl⟩ := zpr hE
    exact y_iret k198_37 rfl
  · rw [if_neg c114] at hE
    refine y_ifF 13 k198_7 (by decide) c114 ?_
    refine y_bipush (v := (-2)) k198_10 b8_m2 ?_
    obtain ⟨rfl, rfl⟩ := zpr hE
    exact y_iret k198_12 rfl
-- AdjectiveCouponsModel.back
def f199 (K : Nat) (x1 : Int32) (g : zS) : Option (Int32 × zS) := zbd (f146 K x1.toInt64 0 1 g) fun r110 g109 => if ¬ r110 = 0 then if zin x1 2 then if ¬ (g109 224 x1.toNatClampNeg) = 0 then zbd (f189 K (73 * (1 + x1)) 0 g109) fun _ g112 => if zin (0 : Int32) 803 then some (((zup g112 222 1 0) 223 (0 : Int32).toNatClampNeg), (zup g112 222 1 0)) else none else (some ((-4), g109)) else none else (some ((-2), g109))
theorem F199 {L : Nat} {xs : Nat → Int32} (K : Nat) (x1 : Int32) (g : zS) (r : Int32) (g' : zS) (hE : f199 K x1 g = some (r, g')) (d : Nat) : zE2 L xs (d + 2) 199 [.ref 222, .int x1] g (some (.int r)) g' := by
  refine y_ev (n := 0) (d := d + 1) (ls := [some (.ref 222), some (.int x1)]) zm199_get (by decide) (Nat.le_of_ble_eq_true rfl) rfl ?_
  unfold f199 at hE
  refine y_iload_n k199_0 rfl ?_
  refine y_i2l k199_1 ?_
  refine y_lconst (v := 0) k199_2 rfl ?_
  refine y_lconst (v := 1) k199_3 rfl ?_
  obtain ⟨r110, g109, hc111, hE⟩ := zbd_some hE
  refine y_invSi (j := 146) (As := [.long x1.toInt64, .long 0, .long 1]) (rest := []) (N := zm146) (F146 K x1.toInt64 0 1 _ r110 g109 hc111 (d + 0)) k199_4 lk_10_65 zm146_get na146 rfl (Nat.le_of_ble_eq_true rfl) ?_
  by_cases c116 : ¬ r110 = 0
  · rw [if_pos c116] at hE
    refine y_ifT (tgt := 13) k199_7 (by decide) c116 ?_
    refine y_aload_n k199_13 rfl rfl ?_
    refine y_getR k199_14 fk_10_13 sh222 rfl ?_
    refine y_iload_n k199_17 rfl ?_
    obtain ⟨hc, hE⟩ := zif_some hE
    refine y_bald k199_18 bo224 (zinN ln224 hc) ?_
    by_cases c115 : ¬ (g109 224 x1.toNatClampNeg) = 0
    · rw [if_pos c115] at hE
      refine y_ifT (tgt := 25) k199_19 (by decide) c115 ?_
      refine y_aload_n k199_25 rfl rfl ?_
      refine y_bipush (v := 73) k199_26 b8_73 ?_
      refine y_iconst (v := 1) k199_28 oi_1 ?_
      refine y_iload_n k199_29 rfl ?_
      refine y_iadd k199_30 ?_
      refine y_imul k199_31 ?_
      refine y_iconst (v := 0) k199_32 oi_0 ?_
      obtain ⟨u113, g112, hc114, hE⟩ := zbd_some hE
      refine y_invVv (j := 189) (As := [.int (73 * (1 + x1)), .int 0]) (rest := []) (N := zm189) (F189 K (73 * (1 + x1)) 0 _ u113 g112 hc114 (d + 0)) k199_33 lk_10_244 zm189_get na189 rfl (Nat.le_of_ble_eq_true rfl) sh222 (by decide) rfl ?_
      refine y_aload_n k199_36 rfl rfl ?_
      refine y_iconst (v := 0) k199_37 oi_0 ?_
      refine y_putI k199_38 fk_10_191 sh222 rfl pi_10_1.1 pi_10_1.2 ?_
      refine y_aload_n k199_41 rfl rfl ?_
      refine y_getR k199_42 fk_10_7 sh222 rfl ?_
      refine y_iconst (v := 0) k199_45 oi_0 ?_
      obtain ⟨hc, hE⟩ := zif_some hE
      refine y_iald k199_46 ar223 (zinN ln223 hc) ?_
      obtain ⟨rfl, rfl⟩ := zpr hE
      exact y_iret k199_47 rfl
    · rw [if_neg c115] at hE
      refine y_ifF 25 k199_19 (by decide) c115 ?_
      refine y_bipush (v := (-4)) k199_22 b8_m4 ?_
      obtain ⟨rfl, rfl⟩ := zpr hE
      exact y_iret k199_24 rfl
  · rw [if_neg c116] at hE
    refine y_ifF 13 k199_7 (by decide) c116 ?_
    refine y_bipush (v := (-2)) k199_10 b8_m2 ?_
    obtain ⟨rfl, rfl⟩ := zpr hE
    exact y_iret k199_12 rfl
-- AdjectiveCouponsModel.canBeOrdered
def f201 (K : Nat) (g : zS) : Option (Int32 × zS) := zbd (f173 K  g) fun _ g109 => if 6 < (g109 222 18) then some (0, g109) else (zbd (f186 K  g109) fun r113 g112 => if ¬ r113 = 0 then some (0, g112) else (some (1, g112)))
theorem F201 {L : Nat} {xs : Nat → Int32} (K : Nat) (g : zS) (r : Int32) (g' : zS) (hE : f201 K  g = some (r, g')) (d : Nat) : zE2 L xs (d + 2) 201 [.ref 222] g (some (.int r)) g' := by
  refine y_ev (n := 0) (d := d + 1) (ls := [some (.ref 222)]) zm201_get (by decide) (Nat.le_of_ble_eq_true rfl) rfl ?_
  unfold f201 at hE
  refine y_aload_n k201_0 rfl rfl ?_
  obtain ⟨u110, g109, hc111, hE⟩ := zbd_some hE
  refine y_invVv (j := 173) (As := []) (rest := []) (N := zm173) (F173 K  _ u110 g109 hc111 (d + 0)) k201_1 lk_10_236 zm173_get na173 rfl (Nat.le_of_ble_eq_true rfl) sh222 (by decide) rfl ?_
  refine y_aload_n k201_4 rfl rfl ?_
  refine y_getI k201_5 fk_10_185 sh222 rfl ?_
  refine y_bipush (v := 6) k201_8 b8_6 ?_
  by_cases c116 : 6 < (g109 222 18)
  · rw [if_pos c116] at hE
    refine y_icT (tgt := 24) k201_10 (by decide) c116 ?_
    refine y_iconst (v := 0) k201_24 oi_0 ?_
    obtain ⟨rfl, rfl⟩ := zpr hE
    exact y_zret k201_25 rfl (by decide)
  · rw [if_neg c116] at hE
    refine y_icF 24 k201_10 (by decide) c116 ?_
    refine y_aload_n k201_13 rfl rfl ?_
    obtain ⟨r113, g112, hc114, hE⟩ := zbd_some hE
    refine y_invVi (j := 186) (As := []) (rest := []) (N := zm186) (F186 K  _ r113 g112 hc114 (d + 0)) k201_14 lk_10_222 zm186_get na186 rfl (Nat.le_of_ble_eq_true rfl) sh222 (by decide) rfl ?_
    by_cases c115 : ¬ r113 = 0
    · rw [if_pos c115] at hE
      refine y_ifT (tgt := 24) k201_17 (by decide) c115 ?_
      refine y_iconst (v := 0) k201_24 oi_0 ?_
      obtain ⟨rfl, rfl⟩ := zpr hE
      exact y_zret k201_25 rfl (by decide)
    · rw [if_neg c115] at hE
      refine y_ifF 24 k201_17 (by decide) c115 ?_
      refine y_iconst (v := 1) k201_20 oi_1 ?_
      refine y_goto (tgt := 25) k201_21 (by decide) ?_
      obtain ⟨rfl, rfl⟩ := zpr hE
      exact y_zret k201_25 rfl (by decide)
-- AdjectiveCouponsModel.layOrder
def f204_69 (K : Nat) (k23 : Int32 → Int32 → Int32 → Int32 → zS → Option (Unit × zS)) (k54 : Int32 → Int32 → Int32 → Int32 → Int32 → Int32 → zS → Option (Unit × zS)) (x2 : Int32) (x3 : Int32) (x4 : Int32) (x5 : Int32) (x6 : Int32) (x7 : Int32) (g : zS) : Option (Unit × zS) := k54 x2 x3 x4 x5 (x6 - ((x4 >>> (x7 &&& 31)) &&& 1)) (x7 + 1) g
def f204_54 (K : Nat) (k23 : Int32 → Int32 → Int32 → Int32 → zS → Option (Unit × zS)) : Nat → Int32 → Int32 → Int32 → Int32 → Int32 → Int32 → zS → Option (Unit × zS)
  | 0, _, _, _, _, _, _, _ => none
  | n + 1, x2, x3, x4, x5, x6, x7, g => zbd (f177 K x4 x7 g) fun r130 g129 => if r130 = 0 then f204_69 K k23 (f204_54 K k23 n) x2 x3 x4 x5 x6 x7 g129 else if x6 ≤ 0 then if zin x7 8 then if zin x5 8 then k23 x2 x3 (x4 &&& ((1 <<< (x7 &&& 31)) ^^^ (-1))) (x5 + 1) (zup g129 235 x5.toNatClampNeg (g129 232 x7.toNatClampNeg)) else none else none else (f204_69 K k23 (f204_54 K k23 n) x2 x3 x4 x5 x6 x7 g129)
def f204_23 (K : Nat) : Nat → Int32 → Int32 → Int32 → Int32 → zS → Option (Unit × zS)
  | 0, _, _, _, _, _ => none
  | n + 1, x2, x3, x4, x5, g => if (g 222 18) ≤ x5 then some ((), (zup g 222 29 (g 222 18))) else if ¬ ((g 222 18) - x5) = 0 then if ¬ (x2 / ((g 222 18) - x5)) = 0 then if ¬ (x2 / ((g 222 18) - x5)) = 0 then f204_54 K (f204_23 K n) K (x2 / ((g 222 18) - x5)) (x3 - x3 / (x2 / ((g 222 18) - x5)) * (x2 / ((g 222 18) - x5))) x4 x5 (x3 / (x2 / ((g 222 18) - x5))) 0 g else none else none else none
def f204 (K : Nat) (x1 : Int32) (g : zS) : Option (Unit × zS) := zbd (f203 K (g 222 18) g) fun r136 g135 => f204_23 K K r136 x1 ((1 <<< ((g135 222 18) &&& 31)) - 1) 0 g135
theorem F204_69 {L : Nat} {xs : Nat → Int32} {d : Nat} (K : Nat) (k23 : Int32 → Int32 → Int32 → Int32 → zS → Option (Unit × zS)) (hk23 : ∀ (x2 : Int32) (x3 : Int32) (x4 : Int32) (x5 : Int32) (g : zS) (r : Unit) (g' : zS), k23 x2 x3 x4 x5 g = some (r, g') → zG2 L xs (d + 1) zm204 23 [some (.ref 222), none, some (.int x2), some (.int x3), some (.int x4), some (.int x5), none, none] [] g none g') (k54 : Int32 → Int32 → Int32 → Int32 → Int32 → Int32 → zS → Option (Unit × zS)) (hk54 : ∀ (x2 : Int32) (x3 : Int32) (x4 : Int32) (x5 : Int32) (x6 : Int32) (x7 : Int32) (g : zS) (r : Unit) (g' : zS), k54 x2 x3 x4 x5 x6 x7 g = some (r, g') → zG2 L xs (d + 1) zm204 54 [some (.ref 222), none, some (.int x2), some (.int x3), some (.int x4), some (.int x5), some (.int x6), some (.int x7)] [] g none g') (x2 : Int32) (x3 : Int32) (x4 : Int32) (x5 : Int32) (x6 : Int32) (x7 : Int32) (g : zS) (r : Unit) (g' : zS) (hE : f204_69 K k23 k54 x2 x3 x4 x5 x6 x7 g = some (r, g')) : zG2 L xs (d + 1) zm204 69 [some (.ref 222), none, some (.int x2), some (.int x3), some (.int x4), some (.int x5), some (.int x6), some (.int x7)] [] g none g' := by
  unfold f204_69 at hE
  refine y_iload k204_69 rfl ?_
  refine y_iload k204_71 rfl ?_
  refine y_iload k204_73 rfl ?_
  refine y_ishr k204_75 ?_
  refine y_iconst (v := 1) k204_76 oi_1 ?_
  refine y_iand k204_77 ?_
  refine y_isub k204_78 ?_
  refine y_istore (ls2 := [some (.ref 222), none, some (.int x2), some (.int x3), some (.int x4), some (.int x5), some (.int (x6 - ((x4 >>> (x7 &&& 31)) &&& 1))), some (.int x7)]) k204_79 rfl (Nat.le_of_ble_eq_true rfl) rfl ?_
  refine y_iinc (v := (x7 + 1)) (ls2 := [some (.ref 222), none, some (.int x2), some (.int x3), some (.int x4), some (.int x5), some (.int (x6 - ((x4 >>> (x7 &&& 31)) &&& 1))), some (.int (x7 + 1))]) k204_81 rfl rfl (by rw [oi_1]) rfl ?_
  refine y_goto (tgt := 54) k204_84 (by decide) ?_
  exact hk54 x2 x3 x4 x5 (x6 - ((x4 >>> (x7 &&& 31)) &&& 1)) (x7 + 1) _ _ _ hE
theorem F204_54 {L : Nat} {xs : Nat → Int32} {d : Nat} (K : Nat) (k23 : Int32 → Int32 → Int32 → Int32 → zS → Option (Unit × zS)) (hk23 : ∀ (x2 : Int32) (x3 : Int32) (x4 : Int32) (x5 : Int32) (g : zS) (r : Unit) (g' : zS), k23 x2 x3 x4 x5 g = some (r, g') → zG2 L xs (d + 1) zm204 23 [some (.ref 222), none, some (.int x2), some (.int x3), some (.int x4), some (.int x5), none, none] [] g none g') : ∀ (n : Nat) (x2 : Int32) (x3 : Int32) (x4 : Int32) (x5 : Int32) (x6 : Int32) (x7 : Int32) (g : zS) (r : Unit) (g' : zS) (hE : f204_54 K k23 n x2 x3 x4 x5 x6 x7 g = some (r, g')), zG2 L xs (d + 1) zm204 54 [some (.ref 222), none, some (.int x2), some (.int x3), some (.int x4), some (.int x5), some (.int x6), some (.int x7)] [] g none g' := by
  intro n
  induction n with
  | zero => intro x2 x3 x4 x5 x6 x7  g r g' hE; cases hE
  | succ n ih =>
    intro x2 x3 x4 x5 x6 x7  g r g' hE
    rw [f204_54] at hE
    refine y_iload k204_54 rfl ?_
    refine y_iload k204_56 rfl ?_
    obtain ⟨r130, g129, hc131, hE⟩ := zbd_some hE
    refine y_invSi (j := 177) (As := [.int x4, .int x7]) (rest := []) (N := zm177) (F177 K x4 x7 _ r130 g129 hc131 (d + 0)) k204_58 lk_10_203 zm177_get na177 rfl (Nat.le_of_ble_eq_true rfl) ?_
    by_cases c133 : r130 = 0
    · rw [if_pos c133] at hE
      refine y_ifT (tgt := 69) k204_61 (by decide) c133 ?_
      exact F204_69 K k23 hk23 (f204_54 K k23 n) ih x2 x3 x4 x5 x6 x7 _ _ _ hE
    · rw [if_neg c133] at hE
      refine y_ifF 69 k204_61 (by decide) c133 ?_
      refine y_iload k204_64 rfl ?_
      by_cases c132 : x6 ≤ 0
      · rw [if_pos c132] at hE
        refine y_ifT (tgt := 87) k204_66 (by decide) c132 ?_
        refine y_aload_n k204_87 rfl rfl ?_
        refine y_getR k204_88 fk_10_51 sh222 rfl ?_
        refine y_iload k204_91 rfl ?_
        refine y_aload_n k204_93 rfl rfl ?_
        refine y_getR k204_94 fk_10_42 sh222 rfl ?_
        refine y_iload k204_97 rfl ?_
        obtain ⟨hc, hE⟩ := zif_some hE
        refine y_iald k204_99 ar232 (zinN ln232 hc) ?_
        obtain ⟨hc, hE⟩ := zif_some hE
        refine y_iast k204_100 ar235 (zinN ln235 hc) ?_
        refine y_iload k204_101 rfl ?_
        refine y_iconst (v := 1) k204_103 oi_1 ?_
        refine y_iload k204_104 rfl ?_
        refine y_ishl k204_106 ?_
        refine y_iconst (v := (-1)) k204_107 oi_m1 ?_
        refine y_ixor k204_108 ?_
        refine y_iand k204_109 ?_
        refine y_istore (ls2 := [some (.ref 222), none, some (.int x2), some (.int x3), some (.int (x4 &&& ((1 <<< (x7 &&& 31)) ^^^ (-1)))), some (.int x5), some (.int x6), some (.int x7)]) k204_110 rfl (Nat.le_of_ble_eq_true rfl) rfl ?_
        refine y_iinc (v := (x5 + 1)) (ls2 := [some (.ref 222), none, some (.int x2), some (.int x3), some (.int (x4 &&& ((1 <<< (x7 &&& 31)) ^^^ (-1)))), some (.int (x5 + 1)), some (.int x6), some (.int x7)]) k204_112 rfl rfl (by rw [oi_1]) rfl ?_
        refine y_goto (tgt := 23) k204_115 (by decide) ?_
        exact y_weak (ls0 := [some (.ref 222), none, some (.int x2), some (.int x3), some (.int (x4 &&& ((1 <<< (x7 &&& 31)) ^^^ (-1)))), some (.int (x5 + 1)), none, none]) ⟨rfl, rfl, rfl, rfl, rfl, rfl, rfl, rfl, trivial⟩ (hk23 x2 x3 (x4 &&& ((1 <<< (x7 &&& 31)) ^^^ (-1))) (x5 + 1) _ _ _ hE)
      · rw [if_neg c132] at hE
        refine y_ifF 87 k204_66 (by decide) c132 ?_
        exact F204_69 K k23 hk23 (f204_54 K k23 n) ih x2 x3 x4 x5 x6 x7 _ _ _ hE
theorem F204_23 {L : Nat} {xs : Nat → Int32} {d : Nat} (K : Nat) : ∀ (n : Nat) (x2 : Int32) (x3 : Int32) (x4 : Int32) (x5 : Int32) (g : zS) (r : Unit) (g' : zS) (hE : f204_23 K n x2 x3 x4 x5 g = some (r, g')), zG2 L xs (d + 1) zm204 23 [some (.ref 222), none, some (.int x2), some (.int x3), some (.int x4), some (.int x5), none, none] [] g none g' := by
  intro n
  induction n with
  | zero => intro x2 x3 x4 x5  g r g' hE; cases hE
  | succ n ih =>
    intro x2 x3 x4 x5  g r g' hE
    rw [f204_23] at hE
    refine y_iload k204_23 rfl ?_
    refine y_aload_n k204_25 rfl rfl ?_
    refine y_getI k204_26 fk_10_185 sh222 rfl ?_
    by_cases c134 : (g 222 18) ≤ x5
    · rw [if_pos c134] at hE
      refine y_icT (tgt := 118) k204_29 (by decide) c134 ?_
      refine y_aload_n k204_118 rfl rfl ?_
      refine y_aload_n k204_119 rfl rfl ?_
      refine y_getI k204_120 fk_10_185 sh222 rfl ?_
      refine y_putI k204_123 fk_10_194 sh222 rfl pi_10_29.1 pi_10_29.2 ?_
      obtain ⟨rfl, rfl⟩ := zpr hE
      exact y_vret k204_126 rfl
    · rw [if_neg c134] at hE
      refine y_icF 118 k204_29 (by decide) c134 ?_
      refine y_iload_n k204_32 rfl ?_
      refine y_aload_n k204_33 rfl rfl ?_
      refine y_getI k204_34 fk_10_185 sh222 rfl ?_
      refine y_iload k204_37 rfl ?_
      refine y_isub k204_39 ?_
      obtain ⟨hc, hE⟩ := zif_some hE
      refine y_idiv k204_40 hc ?_
      refine y_istore_n (ls2 := [some (.ref 222), none, some (.int (x2 / ((g 222 18) - x5))), some (.int x3), some (.int x4), some (.int x5), none, none]) k204_41 rfl (Nat.le_of_ble_eq_true rfl) rfl ?_
      refine y_iload_n k204_42 rfl ?_
      refine y_iload_n k204_43 rfl ?_
      obtain ⟨hc, hE⟩ := zif_some hE
      refine y_idiv k204_44 hc ?_
      refine y_istore (ls2 := [some (.ref 222), none, some (.int (x2 / ((g 222 18) - x5))), some (.int x3), some (.int x4), some (.int x5), some (.int (x3 / (x2 / ((g 222 18) - x5)))), none]) k204_45 rfl (Nat.le_of_ble_eq_true rfl) rfl ?_
      refine y_iload_n k204_47 rfl ?_
      refine y_iload_n k204_48 rfl ?_
      obtain ⟨hc, hE⟩ := zif_some hE
      refine y_irem k204_49 hc ?_
      refine y_istore_n (ls2 := [some (.ref 222), none, some (.int (x2 / ((g 222 18) - x5))), some (.int (x3 - x3 / (x2 / ((g 222 18) - x5)) * (x2 / ((g 222 18) - x5)))), some (.int x4), some (.int x5), some (.int (x3 / (x2 / ((g 222 18) - x5)))), none]) k204_50 rfl (Nat.le_of_ble_eq_true rfl) rfl ?_
      refine y_iconst (v := 0) k204_51 oi_0 ?_
      refine y_istore (ls2 := [some (.ref 222), none, some (.int (x2 / ((g 222 18) - x5))), some (.int (x3 - x3 / (x2 / ((g 222 18) - x5)) * (x2 / ((g 222 18) - x5)))), some (.int x4), some (.int x5), some (.int (x3 / (x2 / ((g 222 18) - x5)))), some (.int 0)]) k204_52 rfl (Nat.le_of_ble_eq_true rfl) rfl ?_
      exact F204_54 K (f204_23 K n) ih K (x2 / ((g 222 18) - x5)) (x3 - x3 / (x2 / ((g 222 18) - x5)) * (x2 / ((g 222 18) - x5))) x4 x5 (x3 / (x2 / ((g 222 18) - x5))) 0 _ _ _ hE
theorem F204 {L : Nat} {xs : Nat → Int32} (K : Nat) (x1 : Int32) (g : zS) (r : Unit) (g' : zS) (hE : f204 K x1 g = some (r, g')) (d : Nat) : zE2 L xs (d + 2) 204 [.ref 222, .int x1] g none g' := by
  refine y_ev (n := 0) (d := d + 1) (ls := [some (.ref 222), some (.int x1), none, none, none, none, none, none]) zm204_get (by decide) (Nat.le_of_ble_eq_true rfl) rfl ?_
  unfold f204 at hE
  refine y_aload_n k204_0 rfl rfl ?_
  refine y_getI k204_1 fk_10_185 sh222 rfl ?_
  obtain ⟨r136, g135, hc137, hE⟩ := zbd_some hE
  refine y_invSi (j := 203) (As := [.int (g 222 18)]) (rest := []) (N := zm203) (F203 K (g 222 18) _ r136 g135 hc137 (d + 0)) k204_4 lk_10_263 zm203_get na203 rfl (Nat.le_of_ble_eq_true rfl) ?_
  refine y_istore_n (ls2 := [some (.ref 222), some (.int x1), some (.int r136), none, none, none, none, none]) k204_7 rfl (Nat.le_of_ble_eq_true rfl) rfl ?_
  refine y_iload_n k204_8 rfl ?_
  refine y_istore_n (ls2 := [some (.ref 222), some (.int x1), some (.int r136), some (.int x1), none, none, none, none]) k204_9 rfl (Nat.le_of_ble_eq_true rfl) rfl ?_
  refine y_iconst (v := 1) k204_10 oi_1 ?_
  refine y_aload_n k204_11 rfl rfl ?_
  refine y_getI k204_12 fk_10_185 sh222 rfl ?_
  refine y_ishl k204_15 ?_
  refine y_iconst (v := 1) k204_16 oi_1 ?_
  refine y_isub k204_17 ?_
  refine y_istore (ls2 := [some (.ref 222), some (.int x1), some (.int r136), some (.int x1), some (.int ((1 <<< ((g135 222 18) &&& 31)) - 1)), none, none, none]) k204_18 rfl (Nat.le_of_ble_eq_true rfl) rfl ?_
  refine y_iconst (v := 0) k204_20 oi_0 ?_
  refine y_istore (ls2 := [some (.ref 222), some (.int x1), some (.int r136), some (.int x1), some (.int ((1 <<< ((g135 222 18) &&& 31)) - 1)), some (.int 0), none, none]) k204_21 rfl (Nat.le_of_ble_eq_true rfl) rfl ?_
  exact y_weak (ls0 := [some (.ref 222), none, some (.int r136), some (.int x1), some (.int ((1 <<< ((g135 222 18) &&& 31)) - 1)), some (.int 0), none, none]) ⟨rfl, rfl, rfl, rfl, rfl, rfl, rfl, rfl, trivial⟩ (F204_23 K K r136 x1 ((1 <<< ((g135 222 18) &&& 31)) - 1) 0 _ _ _ hE)
-- AdjectiveCouponsModel.areWords
def f209_39 (K : Nat) (k4 : Int32 → Int32 → Int32 → zS → Option (Int32 × zS)) (x1 : Int32) (x3 : Int32) (xs0 : Int32) (g : zS) : Option (Int32 × zS) := k4 x1 xs0 (x3 + 1) g
def f209_38 (K : Nat) (k4 : Int32 → Int32 → Int32 → zS → Option (Int32 × zS)) (x1 : Int32) (x3 : Int32) (g : zS) : Option (Int32 × zS) := f209_39 K k4 x1 x3 0 g
def f209_34 (K : Nat) (k4 : Int32 → Int32 → Int32 → zS → Option (Int32 × zS)) (x1 : Int32) (x3 : Int32) (g : zS) : Option (Int32 × zS) := f209_39 K k4 x1 x3 1 g
def f209_4 (K : Nat) : Nat → Int32 → Int32 → Int32 → zS → Option (Int32 × zS)
  | 0, _, _, _, _ => none
  | n + 1, x1, x2, x3, g => if (g 222 18) ≤ x3 then if x2 = 0 ∨ x2 = 1 then some (x2, g) else none else if x2 = 0 then f209_38 K (f209_4 K n) x1 x3 g else (zbd (f177 K x1 x3 g) fun r130 g129 => if r130 = 0 then f209_34 K (f209_4 K n) x1 x3 g129 else if zin x3 8 then if (g129 232 x3.toNatClampNeg) = (-1) then f209_38 K (f209_4 K n) x1 x3 g129 else (f209_34 K (f209_4 K n) x1 x3 g129) else none)
def f209 (K : Nat) (x1 : Int32) (g : zS) : Option (Int32 × zS) := f209_4 K K x1 1 0 g
theorem F209_39 {L : Nat} {xs : Nat → Int32} {d : Nat} (K : Nat) (k4 : Int32 → Int32 → Int32 → zS → Option (Int32 × zS)) (hk4 : ∀ (x1 : Int32) (x2 : Int32) (x3 : Int32) (g : zS) (r : Int32) (g' : zS), k4 x1 x2 x3 g = some (r, g') → zG2 L xs (d + 1) zm209 4 [some (.ref 222), some (.int x1), some (.int x2), some (.int x3)] [] g (some (.int r)) g') (x1 : Int32) (x3 : Int32) (xs0 : Int32) (g : zS) (r : Int32) (g' : zS) (hE : f209_39 K k4 x1 x3 xs0 g = some (r, g')) : zG2 L xs (d + 1) zm209 39 [some (.ref 222), some (.int x1), none, some (.int x3)] [.int xs0] g (some (.int r)) g' := by
  unfold f209_39 at hE
  refine y_istore_n (ls2 := [some (.ref 222), some (.int x1), some (.int xs0), some (.int x3)]) k209_39 rfl (Nat.le_of_ble_eq_true rfl) rfl ?_
  refine y_iinc (v := (x3 + 1)) (ls2 := [some (.ref 222), some (.int x1), some (.int xs0), some (.int (x3 + 1))]) k209_40 rfl rfl (by rw [oi_1]) rfl ?_
  refine y_goto (tgt := 4) k209_43 (by decide) ?_
  exact hk4 x1 xs0 (x3 + 1) _ _ _ hE
theorem F209_38 {L : Nat} {xs : Nat → Int32} {d : Nat} (K : Nat) (k4 : Int32 → Int32 → Int32 → zS → Option (Int32 × zS)) (hk4 : ∀ (x1 : Int32) (x2 : Int32) (x3 : Int32) (g : zS) (r : Int32) (g' : zS), k4 x1 x2 x3 g = some (r, g') → zG2 L xs (d + 1) zm209 4 [some (.ref 222), some (.int x1), some (.int x2), some (.int x3)] [] g (some (.int r)) g') (x1 : Int32) (x3 : Int32) (g : zS) (r : Int32) (g' : zS) (hE : f209_38 K k4 x1 x3 g = some (r, g')) : zG2 L xs (d + 1) zm209 38 [some (.ref 222), some (.int x1), none, some (.int x3)] [] g (some (.int r)) g' := by
  unfold f209_38 at hE
  refine y_iconst (v := 0) k209_38 oi_0 ?_
  exact F209_39 K k4 hk4 x1 x3 0 _ _ _ hE
theorem F209_34 {L : Nat} {xs : Nat → Int32} {d : Nat} (K : Nat) (k4 : Int32 → Int32 → Int32 → zS → Option (Int32 × zS)) (hk4 : ∀ (x1 : Int32) (x2 : Int32) (x3 : Int32) (g : zS) (r : Int32) (g' : zS), k4 x1 x2 x3 g = some (r, g') → zG2 L xs (d + 1) zm209 4 [some (.ref 222), some (.int x1), some (.int x2), some (.int x3)] [] g (some (.int r)) g') (x1 : Int32) (x3 : Int32) (g : zS) (r : Int32) (g' : zS) (hE : f209_34 K k4 x1 x3 g = some (r, g')) : zG2 L xs (d + 1) zm209 34 [some (.ref 222), some (.int x1), none, some (.int x3)] [] g (some (.int r)) g' := by
  unfold f209_34 at hE
  refine y_iconst (v := 1) k209_34 oi_1 ?_
  refine y_goto (tgt := 39) k209_35 (by decide) ?_
  exact F209_39 K k4 hk4 x1 x3 1 _ _ _ hE
theorem F209_4 {L : Nat} {xs : Nat → Int32} {d : Nat} (K : Nat) : ∀ (n : Nat) (x1 : Int32) (x2 : Int32) (x3 : Int32) (g : zS) (r : Int32) (g' : zS) (hE : f209_4 K n x1 x2 x3 g = some (r, g')), zG2 L xs (d + 1) zm209 4 [some (.ref 222), some (.int x1), some (.int x2), some (.int x3)] [] g (some (.int r)) g' := by
  intro n
  induction n with
  | zero => intro x1 x2 x3  g r g' hE; cases hE
  | succ n ih =>
    intro x1 x2 x3  g r g' hE
    rw [f209_4] at hE
    refine y_iload_n k209_4 rfl ?_
    refine y_aload_n k209_5 rfl rfl ?_
    refine y_getI k209_6 fk_10_185 sh222 rfl ?_
    by_cases c135 : (g 222 18) ≤ x3
    · rw [if_pos c135] at hE
      refine y_icT (tgt := 46) k209_9 (by decide) c135 ?_
      refine y_iload_n k209_46 rfl ?_
      obtain ⟨hc, hE⟩ := zif_some hE
      obtain ⟨rfl, rfl⟩ := zpr hE
      exact y_zret k209_47 rfl hc
    · rw [if_neg c135] at hE
      refine y_icF 46 k209_9 (by decide) c135 ?_
      refine y_iload_n k209_12 rfl ?_
      by_cases c134 : x2 = 0
      · rw [if_pos c134] at hE
        refine y_ifT (tgt := 38) k209_13 (by decide) c134 ?_
        exact y_weak (ls0 := [some (.ref 222), some (.int x1), none, some (.int x3)]) ⟨rfl, rfl, rfl, rfl, trivial⟩ (F209_38 K (f209_4 K n) ih x1 x3 _ _ _ hE)
      · rw [if_neg c134] at hE
        refine y_ifF 38 k209_13 (by decide) c134 ?_
        refine y_iload_n k209_16 rfl ?_
        refine y_iload_n k209_17 rfl ?_
        obtain ⟨r130, g129, hc131, hE⟩ := zbd_some hE
        refine y_invSi (j := 177) (As := [.int x1, .int x3]) (rest := []) (N := zm177) (F177 K x1 x3 _ r130 g129 hc131 (d + 0)) k209_18 lk_10_203 zm177_get na177 rfl (Nat.le_of_ble_eq_true rfl) ?_
        by_cases c133 : r130 = 0
        · rw [if_pos c133] at hE
          refine y_ifT (tgt := 34) k209_21 (by decide) c133 ?_
          exact y_weak (ls0 := [some (.ref 222), some (.int x1), none, some (.int x3)]) ⟨rfl, rfl, rfl, rfl, trivial⟩ (F209_34 K (f209_4 K n) ih x1 x3 _ _ _ hE)
        · rw [if_neg c133] at hE
          refine y_ifF 34 k209_21 (by decide) c133 ?_
          refine y_aload_n k209_24 rfl rfl ?_
          refine y_getR k209_25 fk_10_42 sh222 rfl ?_
          refine y_iload_n k209_28 rfl ?_
          obtain ⟨hc, hE⟩ := zif_some hE
          refine y_iald k209_29 ar232 (zinN ln232 hc) ?_
          refine y_iconst (v := (-1)) k209_30 oi_m1 ?_
          by_cases c132 : (g129 232 x3.toNatClampNeg) = (-1)
          · rw [if_pos c132] at hE
            refine y_icT (tgt := 38) k209_31 (by decide) c132 ?_
            exact y_weak (ls0 := [some (.ref 222), some (.int x1), none, some (.int x3)]) ⟨rfl, rfl, rfl, rfl, trivial⟩ (F209_38 K (f209_4 K n) ih x1 x3 _ _ _ hE)
          · rw [if_neg c132] at hE
            refine y_icF 38 k209_31 (by decide) c132 ?_
            exact y_weak (ls0 := [some (.ref 222), some (.int x1), none, some (.int x3)]) ⟨rfl, rfl, rfl, rfl, trivial⟩ (F209_34 K (f209_4 K n) ih x1 x3 _ _ _ hE)
theorem F209 {L : Nat} {xs : Nat → Int32} (K : Nat) (x1 : Int32) (g : zS) (r : Int32) (g' : zS) (hE : f209 K x1 g = some (r, g')) (d : Nat) : zE2 L xs (d + 2) 209 [.ref 222, .int x1] g (some (.int r)) g' := by
  refine y_ev (n := 0) (d := d + 1) (ls := [some (.ref 222), some (.int x1), none, none]) zm209_get (by decide) (Nat.le_of_ble_eq_true rfl) rfl ?_
  unfold f209 at hE
  refine y_iconst (v := 1) k209_0 oi_1 ?_
  refine y_istore_n (ls2 := [some (.ref 222), some (.int x1), some (.int 1), none]) k209_1 rfl (Nat.le_of_ble_eq_true rfl) rfl ?_
  refine y_iconst (v := 0) k209_2 oi_0 ?_
  refine y_istore_n (ls2 := [some (.ref 222), some (.int x1), some (.int 1), some (.int 0)]) k209_3 rfl (Nat.le_of_ble_eq_true rfl) rfl ?_
  exact F209_4 K K x1 1 0 _ _ _ hE
-- AdjectiveCouponsModel.layWithout
def f211_48 (K : Nat) (k7 : Int32 → Int32 → zS → Option (Unit × zS)) (x1 : Int32) (x2 : Int32) (g : zS) : Option (Unit × zS) := k7 x1 (x2 + 1) g
def f211_7 (K : Nat) : Nat → Int32 → Int32 → zS → Option (Unit × zS)
  | 0, _, _, _ => none
  | n + 1, x1, x2, g => if (g 222 18) ≤ x2 then some ((), g) else (zbd (f177 K x1 x2 g) fun r117 g116 => if ¬ r117 = 0 then f211_48 K (f211_7 K n) x1 x2 g116 else if zin x2 8 then if zin (g116 222 29) 8 then f211_48 K (f211_7 K n) x1 x2 (zup (zup g116 235 (g116 222 29).toNatClampNeg (g116 232 x2.toNatClampNeg)) 222 29 (((zup g116 235 (g116 222 29).toNatClampNeg (g116 232 x2.toNatClampNeg)) 222 29) + 1)) else none else none)
def f211 (K : Nat) (x1 : Int32) (g : zS) : Option (Unit × zS) := f211_7 K K x1 0 (zup g 222 29 0)
theorem F211_48 {L : Nat} {xs : Nat → Int32} {d : Nat} (K : Nat) (k7 : Int32 → Int32 → zS → Option (Unit × zS)) (hk7 : ∀ (x1 : Int32) (x2 : Int32) (g : zS) (r : Unit) (g' : zS), k7 x1 x2 g = some (r, g') → zG2 L xs (d + 1) zm211 7 [some (.ref 222), some (.int x1), some (.int x2)] [] g none g') (x1 : Int32) (x2 : Int32) (g : zS) (r : Unit) (g' : zS) (hE : f211_48 K k7 x1 x2 g = some (r, g')) : zG2 L xs (d + 1) zm211 48 [some (.ref 222), some (.int x1), some (.int x2)] [] g none g' := by
  unfold f211_48 at hE
  refine y_iinc (v := (x2 + 1)) (ls2 := [some (.ref 222), some (.int x1), some (.int (x2 + 1))]) k211_48 rfl rfl (by rw [oi_1]) rfl ?_
  refine y_goto (tgt := 7) k211_51 (by decide) ?_
  exact hk7 x1 (x2 + 1) _ _ _ hE
theorem F211_7 {L : Nat} {xs : Nat → Int32} {d : Nat} (K : Nat) : ∀ (n : Nat) (x1 : Int32) (x2 : Int32) (g : zS) (r : Unit) (g' : zS) (hE : f211_7 K n x1 x2 g = some (r, g')), zG2 L xs (d + 1) zm211 7 [some (.ref 222), some (.int x1), some (.int x2)] [] g none g' := by
  intro n
  induction n with
  | zero => intro x1 x2  g r g' hE; cases hE
  | succ n ih =>
    intro x1 x2  g r g' hE
    rw [f211_7] at hE
    refine y_iload_n k211_7 rfl ?_
    refine y_aload_n k211_8 rfl rfl ?_
    refine y_getI k211_9 fk_10_185 sh222 rfl ?_
    by_cases c120 : (g 222 18) ≤ x2
    · rw [if_pos c120] at hE
      refine y_icT (tgt := 54) k211_12 (by decide) c120 ?_
      obtain ⟨rfl, rfl⟩ := zpr hE
      exact y_vret k211_54 rfl
    · rw [if_neg c120] at hE
      refine y_icF 54 k211_12 (by decide) c120 ?_
      refine y_iload_n k211_15 rfl ?_
      refine y_iload_n k211_16 rfl ?_
      obtain ⟨r117, g116, hc118, hE⟩ := zbd_some hE
      refine y_invSi (j := 177) (As := [.int x1, .int x2]) (rest := []) (N := zm177) (F177 K x1 x2 _ r117 g116 hc118 (d + 0)) k211_17 lk_10_203 zm177_get na177 rfl (Nat.le_of_ble_eq_true rfl) ?_
      by_cases c119 : ¬ r117 = 0
      · rw [if_pos c119] at hE
        refine y_ifT (tgt := 48) k211_20 (by decide) c119 ?_
        exact F211_48 K (f211_7 K n) ih x1 x2 _ _ _ hE
      · rw [if_neg c119] at hE
        refine y_ifF 48 k211_20 (by decide) c119 ?_
        refine y_aload_n k211_23 rfl rfl ?_
        refine y_getR k211_24 fk_10_51 sh222 rfl ?_
        refine y_aload_n k211_27 rfl rfl ?_
        refine y_getI k211_28 fk_10_194 sh222 rfl ?_
        refine y_aload_n k211_31 rfl rfl ?_
        refine y_getR k211_32 fk_10_42 sh222 rfl ?_
        refine y_iload_n k211_35 rfl ?_
        obtain ⟨hc, hE⟩ := zif_some hE
        refine y_iald k211_36 ar232 (zinN ln232 hc) ?_
        obtain ⟨hc, hE⟩ := zif_some hE
        refine y_iast k211_37 ar235 (zinN ln235 hc) ?_
        refine y_aload_n k211_38 rfl rfl ?_
        refine y_dup k211_39 rfl ?_
        refine y_getI k211_40 fk_10_194 sh222 rfl ?_
        refine y_iconst (v := 1) k211_43 oi_1 ?_
        refine y_iadd k211_44 ?_
        refine y_putI k211_45 fk_10_194 sh222 rfl pi_10_29.1 pi_10_29.2 ?_
        exact F211_48 K (f211_7 K n) ih x1 x2 _ _ _ hE
theorem F211 {L : Nat} {xs : Nat → Int32} (K : Nat) (x1 : Int32) (g : zS) (r : Unit) (g' : zS) (hE : f211 K x1 g = some (r, g')) (d : Nat) : zE2 L xs (d + 2) 211 [.ref 222, .int x1] g none g' := by
  refine y_ev (n := 0) (d := d + 1) (ls := [some (.ref 222), some (.int x1), none]) zm211_get (by decide) (Nat.le_of_ble_eq_true rfl) rfl ?_
  unfold f211 at hE
  refine y_aload_n k211_0 rfl rfl ?_
  refine y_iconst (v := 0) k211_1 oi_0 ?_
  refine y_putI k211_2 fk_10_194 sh222 rfl pi_10_29.1 pi_10_29.2 ?_
  refine y_iconst (v := 0) k211_5 oi_0 ?_
  refine y_istore_n (ls2 := [some (.ref 222), some (.int x1), some (.int 0)]) k211_6 rfl (Nat.le_of_ble_eq_true rfl) rfl ?_
  exact F211_7 K K x1 0 _ _ _ hE
-- AdjectiveCouponsModel.layFilled
def f213_46 (K : Nat) (k13 : Int32 → Int32 → zS → Option (Unit × zS)) (x2 : Int32) (x3 : Int32) (g : zS) : Option (Unit × zS) := k13 x2 (x3 + (-1)) g
def f213_13 (K : Nat) : Nat → Int32 → Int32 → zS → Option (Unit × zS)
  | 0, _, _, _ => none
  | n + 1, x2, x3, g => if x3 < 0 then some ((), g) else if zin x3 8 then if ¬ (g 232 x3.toNatClampNeg) = (-1) then f213_46 K (f213_13 K n) x2 x3 g else if ¬ (g 222 9) = 0 then if zin x3 8 then if ¬ ((zup g 235 x3.toNatClampNeg (x2 - x2 / (g 222 9) * (g 222 9))) 222 9) = 0 then f213_46 K (f213_13 K n) (x2 / ((zup g 235 x3.toNatClampNeg (x2 - x2 / (g 222 9) * (g 222 9))) 222 9)) x3 (zup g 235 x3.toNatClampNeg (x2 - x2 / (g 222 9) * (g 222 9))) else none else none else none else none
def f213 (K : Nat) (x1 : Int32) (g : zS) : Option (Unit × zS) := zbd (f173 K  g) fun _ g115 => f213_13 K K x1 ((g115 222 18) - 1) g115
theorem F213_46 {L : Nat} {xs : Nat → Int32} {d : Nat} (K : Nat) (k13 : Int32 → Int32 → zS → Option (Unit × zS)) (hk13 : ∀ (x2 : Int32) (x3 : Int32) (g : zS) (r : Unit) (g' : zS), k13 x2 x3 g = some (r, g') → zG2 L xs (d + 1) zm213 13 [some (.ref 222), none, some (.int x2), some (.int x3)] [] g none g') (x2 : Int32) (x3 : Int32) (g : zS) (r : Unit) (g' : zS) (hE : f213_46 K k13 x2 x3 g = some (r, g')) : zG2 L xs (d + 1) zm213 46 [some (.ref 222), none, some (.int x2), some (.int x3)] [] g none g' := by
  unfold f213_46 at hE
  refine y_iinc (v := (x3 + (-1))) (ls2 := [some (.ref 222), none, some (.int x2), some (.int (x3 + (-1)))]) k213_46 rfl rfl (by rw [oi_m1]) rfl ?_
  refine y_goto (tgt := 13) k213_49 (by decide) ?_
  exact hk13 x2 (x3 + (-1)) _ _ _ hE
theorem F213_13 {L : Nat} {xs : Nat → Int32} {d : Nat} (K : Nat) : ∀ (n : Nat) (x2 : Int32) (x3 : Int32) (g : zS) (r : Unit) (g' : zS) (hE : f213_13 K n x2 x3 g = some (r, g')), zG2 L xs (d + 1) zm213 13 [some (.ref 222), none, some (.int x2), some (.int x3)] [] g none g' := by
  intro n
  induction n with
  | zero => intro x2 x3  g r g' hE; cases hE
  | succ n ih =>
    intro x2 x3  g r g' hE
    rw [f213_13] at hE
    refine y_iload_n k213_13 rfl ?_
    by_cases c114 : x3 < 0
    · rw [if_pos c114] at hE
      refine y_ifT (tgt := 52) k213_14 (by decide) c114 ?_
      obtain ⟨rfl, rfl⟩ := zpr hE
      exact y_vret k213_52 rfl
    · rw [if_neg c114] at hE
      refine y_ifF 52 k213_14 (by decide) c114 ?_
      refine y_aload_n k213_17 rfl rfl ?_
      refine y_getR k213_18 fk_10_42 sh222 rfl ?_
      refine y_iload_n k213_21 rfl ?_
      obtain ⟨hc, hE⟩ := zif_some hE
      refine y_iald k213_22 ar232 (zinN ln232 hc) ?_
      refine y_iconst (v := (-1)) k213_23 oi_m1 ?_
      by_cases c113 : ¬ (g 232 x3.toNatClampNeg) = (-1)
      · rw [if_pos c113] at hE
        refine y_icT (tgt := 46) k213_24 (by decide) c113 ?_
        exact F213_46 K (f213_13 K n) ih x2 x3 _ _ _ hE
      · rw [if_neg c113] at hE
        refine y_icF 46 k213_24 (by decide) c113 ?_
        refine y_aload_n k213_27 rfl rfl ?_
        refine y_getR k213_28 fk_10_51 sh222 rfl ?_
        refine y_iload_n k213_31 rfl ?_
        refine y_iload_n k213_32 rfl ?_
        refine y_aload_n k213_33 rfl rfl ?_
        refine y_getI k213_34 fk_10_149 sh222 rfl ?_
        obtain ⟨hc, hE⟩ := zif_some hE
        refine y_irem k213_37 hc ?_
        obtain ⟨hc, hE⟩ := zif_some hE
        refine y_iast k213_38 ar235 (zinN ln235 hc) ?_
        refine y_iload_n k213_39 rfl ?_
        refine y_aload_n k213_40 rfl rfl ?_
        refine y_getI k213_41 fk_10_149 sh222 rfl ?_
        obtain ⟨hc, hE⟩ := zif_some hE
        refine y_idiv k213_44 hc ?_
        refine y_istore_n (ls2 := [some (.ref 222), none, some (.int (x2 / ((zup g 235 x3.toNatClampNeg (x2 - x2 / (g 222 9) * (g 222 9))) 222 9))), some (.int x3)]) k213_45 rfl (Nat.le_of_ble_eq_true rfl) rfl ?_
        exact F213_46 K (f213_13 K n) ih (x2 / ((zup g 235 x3.toNatClampNeg (x2 - x2 / (g 222 9) * (g 222 9))) 222 9)) x3 _ _ _ hE
theorem F213 {L : Nat} {xs : Nat → Int32} (K : Nat) (x1 : Int32) (g : zS) (r : Unit) (g' : zS) (hE : f213 K x1 g = some (r, g')) (d : Nat) : zE2 L xs (d + 2) 213 [.ref 222, .int x1] g none g' := by
  refine y_ev (n := 0) (d := d + 1) (ls := [some (.ref 222), some (.int x1), none, none]) zm213_get (by decide) (Nat.le_of_ble_eq_true rfl) rfl ?_
  unfold f213 at hE
  refine y_iload_n k213_0 rfl ?_
  refine y_istore_n (ls2 := [some (.ref 222), some (.int x1), some (.int x1), none]) k213_1 rfl (Nat.le_of_ble_eq_true rfl) rfl ?_
  refine y_aload_n k213_2 rfl rfl ?_
  obtain ⟨u116, g115, hc117, hE⟩ := zbd_some hE
  refine y_invVv (j := 173) (As := []) (rest := []) (N := zm173) (F173 K  _ u116 g115 hc117 (d + 0)) k213_3 lk_10_236 zm173_get na173 rfl (Nat.le_of_ble_eq_true rfl) sh222 (by decide) rfl ?_
  refine y_aload_n k213_6 rfl rfl ?_
  refine y_getI k213_7 fk_10_185 sh222 rfl ?_
  refine y_iconst (v := 1) k213_10 oi_1 ?_
  refine y_isub k213_11 ?_
  refine y_istore_n (ls2 := [some (.ref 222), some (.int x1), some (.int x1), some (.int ((g115 222 18) - 1))]) k213_12 rfl (Nat.le_of_ble_eq_true rfl) rfl ?_
  exact y_weak (ls0 := [some (.ref 222), none, some (.int x1), some (.int ((g115 222 18) - 1))]) ⟨rfl, rfl, rfl, rfl, trivial⟩ (F213_13 K K x1 ((g115 222 18) - 1) _ _ _ hE)
-- AdjectiveCouponsModel.draft
def f214_35 (K : Nat) : Nat → Int32 → zS → Option (Int32 × zS)
  | 0, _, _ => none
  | n + 1, x1, g => if (g 222 18) ≤ x1 then if zin (g 222 21) 6 then some (((zup (zup g 234 (g 222 21).toNatClampNeg (g 222 18)) 222 21 (((zup g 234 (g 222 21).toNatClampNeg (g 222 18)) 222 21) + 1)) 222 21), (zup (zup g 234 (g 222 21).toNatClampNeg (g 222 18)) 222 21 (((zup g 234 (g 222 21).toNatClampNeg (g 222 18)) 222 21) + 1))) else none else if zin x1 8 then if zin ((8 * (g 222 21)) + x1) 48 then (f214_35 K n) (x1 + 1) (zup g 233 ((8 * (g 222 21)) + x1).toNatClampNeg (g 232 x1.toNatClampNeg)) else none else none
def f214 (K : Nat) (g : zS) : Option (Int32 × zS) := zbd (f173 K  g) fun _ g123 => if (g123 222 29) = 0 then some ((-4), g123) else (zbd (f186 K  g123) fun r127 g126 => if r127 = 0 then if ¬ (g126 222 21) = 6 then f214_35 K K 0 g126 else (some ((-5), g126)) else (some ((-4), g126)))
theorem F214_35 {L : Nat} {xs : Nat → Int32} {d : Nat} (K : Nat) : ∀ (n : Nat) (x1 : Int32) (g : zS) (r : Int32) (g' : zS) (hE : f214_35 K n x1 g = some (r, g')), zG2 L xs (d + 1) zm214 35 [some (.ref 222), some (.int x1)] [] g (some (.int r)) g' := by
  intro n
  induction n with
  | zero => intro x1  g r g' hE; cases hE
  | succ n ih =>
    intro x1  g r g' hE
    rw [f214_35] at hE
    refine y_iload_n k214_35 rfl ?_
    refine y_aload_n k214_36 rfl rfl ?_
    refine y_getI k214_37 fk_10_185 sh222 rfl ?_
    by_cases c122 : (g 222 18) ≤ x1
    · rw [if_pos c122] at hE
      refine y_icT (tgt := 69) k214_40 (by decide) c122 ?_
      refine y_aload_n k214_69 rfl rfl ?_
      refine y_getR k214_70 fk_10_48 sh222 rfl ?_
      refine y_aload_n k214_73 rfl rfl ?_
      refine y_getI k214_74 fk_10_188 sh222 rfl ?_
      refine y_aload_n k214_77 rfl rfl ?_
      refine y_getI k214_78 fk_10_185 sh222 rfl ?_
      obtain ⟨hc, hE⟩ := zif_some hE
      refine y_iast k214_81 ar234 (zinN ln234 hc) ?_
      refine y_aload_n k214_82 rfl rfl ?_
      refine y_dup k214_83 rfl ?_
      refine y_getI k214_84 fk_10_188 sh222 rfl ?_
      refine y_iconst (v := 1) k214_87 oi_1 ?_
      refine y_iadd k214_88 ?_
      refine y_putI k214_89 fk_10_188 sh222 rfl pi_10_21.1 pi_10_21.2 ?_
      refine y_aload_n k214_92 rfl rfl ?_
      refine y_getI k214_93 fk_10_188 sh222 rfl ?_
      obtain ⟨rfl, rfl⟩ := zpr hE
      exact y_iret k214_96 rfl
    · rw [if_neg c122] at hE
      refine y_icF 69 k214_40 (by decide) c122 ?_
      refine y_aload_n k214_43 rfl rfl ?_
      refine y_getR k214_44 fk_10_45 sh222 rfl ?_
      refine y_bipush (v := 8) k214_47 b8_8 ?_
      refine y_aload_n k214_49 rfl rfl ?_
      refine y_getI k214_50 fk_10_188 sh222 rfl ?_
      refine y_imul k214_53 ?_
      refine y_iload_n k214_54 rfl ?_
      refine y_iadd k214_55 ?_
      refine y_aload_n k214_56 rfl rfl ?_
      refine y_getR k214_57 fk_10_42 sh222 rfl ?_
      refine y_iload_n k214_60 rfl ?_
      obtain ⟨hc, hE⟩ := zif_some hE
      refine y_iald k214_61 ar232 (zinN ln232 hc) ?_
      obtain ⟨hc, hE⟩ := zif_some hE
      refine y_iast k214_62 ar233 (zinN ln233 hc) ?_
      refine y_iinc (v := (x1 + 1)) (ls2 := [some (.ref 222), some (.int (x1 + 1))]) k214_63 rfl rfl (by rw [oi_1]) rfl ?_
      refine y_goto (tgt := 35) k214_66 (by decide) ?_
      exact ih (x1 + 1) _ _ _ hE
theorem F214 {L : Nat} {xs : Nat → Int32} (K : Nat) (g : zS) (r : Int32) (g' : zS) (hE : f214 K  g = some (r, g')) (d : Nat) : zE2 L xs (d + 2) 214 [.ref 222] g (some (.int r)) g' := by
  refine y_ev (n := 0) (d := d + 1) (ls := [some (.ref 222), none]) zm214_get (by decide) (Nat.le_of_ble_eq_true rfl) rfl ?_
  unfold f214 at hE
  refine y_aload_n k214_0 rfl rfl ?_
  obtain ⟨u124, g123, hc125, hE⟩ := zbd_some hE
  refine y_invVv (j := 173) (As := []) (rest := []) (N := zm173) (F173 K  _ u124 g123 hc125 (d + 0)) k214_1 lk_10_236 zm173_get na173 rfl (Nat.le_of_ble_eq_true rfl) sh222 (by decide) rfl ?_
  refine y_aload_n k214_4 rfl rfl ?_
  refine y_getI k214_5 fk_10_194 sh222 rfl ?_
  by_cases c131 : (g123 222 29) = 0
  · rw [if_pos c131] at hE
    refine y_ifT (tgt := 18) k214_8 (by decide) c131 ?_
    refine y_bipush (v := (-4)) k214_18 b8_m4 ?_
    obtain ⟨rfl, rfl⟩ := zpr hE
    exact y_iret k214_20 rfl
  · rw [if_neg c131] at hE
    refine y_ifF 18 k214_8 (by decide) c131 ?_
    refine y_aload_n k214_11 rfl rfl ?_
    obtain ⟨r127, g126, hc128, hE⟩ := zbd_some hE
    refine y_invVi (j := 186) (As := []) (rest := []) (N := zm186) (F186 K  _ r127 g126 hc128 (d + 0)) k214_12 lk_10_222 zm186_get na186 rfl (Nat.le_of_ble_eq_true rfl) sh222 (by decide) rfl ?_
    by_cases c130 : r127 = 0
    · rw [if_pos c130] at hE
      refine y_ifT (tgt := 21) k214_15 (by decide) c130 ?_
      refine y_aload_n k214_21 rfl rfl ?_
      refine y_getI k214_22 fk_10_188 sh222 rfl ?_
      refine y_bipush (v := 6) k214_25 b8_6 ?_
      by_cases c129 : ¬ (g126 222 21) = 6
      · rw [if_pos c129] at hE
        refine y_icT (tgt := 33) k214_27 (by decide) c129 ?_
        refine y_iconst (v := 0) k214_33 oi_0 ?_
        refine y_istore_n (ls2 := [some (.ref 222), some (.int 0)]) k214_34 rfl (Nat.le_of_ble_eq_true rfl) rfl ?_
        exact F214_35 K K 0 _ _ _ hE
      · rw [if_neg c129] at hE
        refine y_icF 33 k214_27 (by decide) c129 ?_
        refine y_bipush (v := (-5)) k214_30 b8_m5 ?_
        obtain ⟨rfl, rfl⟩ := zpr hE
        exact y_iret k214_32 rfl
    · rw [if_neg c130] at hE
      refine y_ifF 21 k214_15 (by decide) c130 ?_
      refine y_bipush (v := (-4)) k214_18 b8_m4 ?_
      obtain ⟨rfl, rfl⟩ := zpr hE
      exact y_iret k214_20 rfl
-- AdjectiveCouponsModel.worthOfSet
def f219_34 (K : Nat) (k4 : Int32 → Int32 → Int32 → zS → Option (Int32 × zS)) (x1 : Int32) (x3 : Int32) (xs0 : Int32) (xs1 : Int32) (g : zS) : Option (Int32 × zS) := k4 x1 (xs0 + xs1) (x3 + 1) g
def f219_4 (K : Nat) : Nat → Int32 → Int32 → Int32 → zS → Option (Int32 × zS)
  | 0, _, _, _, _ => none
  | n + 1, x1, x2, x3, g => if (g 222 21) ≤ x3 then some (x2, g) else (zbd (f217 K x3 g) fun _ g134 => zbd (f177 K x1 x3 g134) fun r138 g137 => if r138 = 0 then f219_34 K (f219_4 K n) x1 x3 x2 0 g137 else (zbd (f190 K  g137) fun r141 g140 => f219_34 K (f219_4 K n) x1 x3 x2 r141 g140))
def f219 (K : Nat) (x1 : Int32) (g : zS) : Option (Int32 × zS) := f219_4 K K x1 0 0 g
theorem F219_34 {L : Nat} {xs : Nat → Int32} {d : Nat} (K : Nat) (k4 : Int32 → Int32 → Int32 → zS → Option (Int32 × zS)) (hk4 : ∀ (x1 : Int32) (x2 : Int32) (x3 : Int32) (g : zS) (r : Int32) (g' : zS), k4 x1 x2 x3 g = some (r, g') → zG2 L xs (d + 1) zm219 4 [some (.ref 222), some (.int x1), some (.int x2), some (.int x3)] [] g (some (.int r)) g') (x1 : Int32) (x3 : Int32) (xs0 : Int32) (xs1 : Int32) (g : zS) (r : Int32) (g' : zS) (hE : f219_34 K k4 x1 x3 xs0 xs1 g = some (r, g')) : zG2 L xs (d + 1) zm219 34 [some (.ref 222), some (.int x1), none, some (.int x3)] [.int xs1, .int xs0] g (some (.int r)) g' := by
  unfold f219_34 at hE
  refine y_iadd k219_34 ?_
  refine y_istore_n (ls2 := [some (.ref 222), some (.int x1), some (.int (xs0 + xs1)), some (.int x3)]) k219_35 rfl (Nat.le_of_ble_eq_true rfl) rfl ?_
  refine y_iinc (v := (x3 + 1)) (ls2 := [some (.ref 222), some (.int x1), some (.int (xs0 + xs1)), some (.int (x3 + 1))]) k219_36 rfl rfl (by rw [oi_1]) rfl ?_
  refine y_goto (tgt := 4) k219_39 (by decide) ?_
  exact hk4 x1 (xs0 + xs1) (x3 + 1) _ _ _ hE
theorem F219_4 {L : Nat} {xs : Nat → Int32} {d : Nat} (K : Nat) : ∀ (n : Nat) (x1 : Int32) (x2 : Int32) (x3 : Int32) (g : zS) (r : Int32) (g' : zS) (hE : f219_4 K n x1 x2 x3 g = some (r, g')), zG2 L xs (d + 1) zm219 4 [some (.ref 222), some (.int x1), some (.int x2), some (.int x3)] [] g (some (.int r)) g' := by
  intro n
  induction n with
  | zero => intro x1 x2 x3  g r g' hE; cases hE
  | succ n ih =>
    intro x1 x2 x3  g r g' hE
    rw [f219_4] at hE
    refine y_iload_n k219_4 rfl ?_
    refine y_aload_n k219_5 rfl rfl ?_
    refine y_getI k219_6 fk_10_188 sh222 rfl ?_
    by_cases c144 : (g 222 21) ≤ x3
    · rw [if_pos c144] at hE
      refine y_icT (tgt := 42) k219_9 (by decide) c144 ?_
      refine y_iload_n k219_42 rfl ?_
      obtain ⟨rfl, rfl⟩ := zpr hE
      exact y_iret k219_43 rfl
    · rw [if_neg c144] at hE
      refine y_icF 42 k219_9 (by decide) c144 ?_
      refine y_aload_n k219_12 rfl rfl ?_
      refine y_iload_n k219_13 rfl ?_
      obtain ⟨u135, g134, hc136, hE⟩ := zbd_some hE
      refine y_invVv (j := 217) (As := [.int x3]) (rest := []) (N := zm217) (F217 K x3 _ u135 g134 hc136 (d + 0)) k219_14 lk_10_299 zm217_get na217 rfl (Nat.le_of_ble_eq_true rfl) sh222 (by decide) rfl ?_
      refine y_iload_n k219_17 rfl ?_
      refine y_iload_n k219_18 rfl ?_
      refine y_iload_n k219_19 rfl ?_
      obtain ⟨r138, g137, hc139, hE⟩ := zbd_some hE
      refine y_invSi (j := 177) (As := [.int x1, .int x3]) (rest := [.int x2]) (N := zm177) (F177 K x1 x3 _ r138 g137 hc139 (d + 0)) k219_20 lk_10_203 zm177_get na177 rfl (Nat.le_of_ble_eq_true rfl) ?_
      by_cases c143 : r138 = 0
      · rw [if_pos c143] at hE
        refine y_ifT (tgt := 33) k219_23 (by decide) c143 ?_
        refine y_iconst (v := 0) k219_33 oi_0 ?_
        exact y_weak (ls0 := [some (.ref 222), some (.int x1), none, some (.int x3)]) ⟨rfl, rfl, rfl, rfl, trivial⟩ (F219_34 K (f219_4 K n) ih x1 x3 x2 0 _ _ _ hE)
      · rw [if_neg c143] at hE
        refine y_ifF 33 k219_23 (by decide) c143 ?_
        refine y_aload_n k219_26 rfl rfl ?_
        obtain ⟨r141, g140, hc142, hE⟩ := zbd_some hE
        refine y_invVi (j := 190) (As := []) (rest := [.int x2]) (N := zm190) (F190 K  _ r141 g140 hc142 (d + 0)) k219_27 lk_10_250 zm190_get na190 rfl (Nat.le_of_ble_eq_true rfl) sh222 (by decide) rfl ?_
        refine y_goto (tgt := 34) k219_30 (by decide) ?_
        exact y_weak (ls0 := [some (.ref 222), some (.int x1), none, some (.int x3)]) ⟨rfl, rfl, rfl, rfl, trivial⟩ (F219_34 K (f219_4 K n) ih x1 x3 x2 r141 _ _ _ hE)
theorem F219 {L : Nat} {xs : Nat → Int32} (K : Nat) (x1 : Int32) (g : zS) (r : Int32) (g' : zS) (hE : f219 K x1 g = some (r, g')) (d : Nat) : zE2 L xs (d + 2) 219 [.ref 222, .int x1] g (some (.int r)) g' := by
  refine y_ev (n := 0) (d := d + 1) (ls := [some (.ref 222), some (.int x1), none, none]) zm219_get (by decide) (Nat.le_of_ble_eq_true rfl) rfl ?_
  unfold f219 at hE
  refine y_iconst (v := 0) k219_0 oi_0 ?_
  refine y_istore_n (ls2 := [some (.ref 222), some (.int x1), some (.int 0), none]) k219_1 rfl (Nat.le_of_ble_eq_true rfl) rfl ?_
  refine y_iconst (v := 0) k219_2 oi_0 ?_
  refine y_istore_n (ls2 := [some (.ref 222), some (.int x1), some (.int 0), some (.int 0)]) k219_3 rfl (Nat.le_of_ble_eq_true rfl) rfl ?_
  exact F219_4 K K x1 0 0 _ _ _ hE
-- AdjectiveCouponsModel.likenessOf
def f223_69 (K : Nat) (k16 : Int32 → Int32 → Int32 → Int32 → zS → Option (Int32 × zS)) (x1 : Int32) (x3 : Int32) (x4 : Int32) (xs0 : Int32) (xs1 : Int32) (g : zS) : Option (Int32 × zS) := k16 x1 (xs0 + xs1) x3 (x4 + 1) g
def f223_16 (K : Nat) : Nat → Int32 → Int32 → Int32 → Int32 → zS → Option (Int32 × zS)
  | 0, _, _, _, _, _ => none
  | n + 1, x1, x2, x3, x4, g => if (g 222 18) ≤ x4 then some (x2, g) else if zin x4 8 then if ¬ (g 232 x4.toNatClampNeg) = (-1) then if zin x4 8 then if zin ((17 + (10 * x1)) + (g 232 x4.toNatClampNeg)) 803 then if ¬ x3 = 0 then f223_69 K (f223_16 K n) x1 x3 x4 x2 ((1000 * ((g 223 ((17 + (10 * x1)) + (g 232 x4.toNatClampNeg)).toNatClampNeg) + 1)) / x3) g else none else none else none else (f223_69 K (f223_16 K n) x1 x3 x4 x2 0 g) else none
def f223 (K : Nat) (x1 : Int32) (g : zS) : Option (Int32 × zS) := zbd (f171 K x1 g) fun r116 g115 => f223_16 K K x1 0 (r116 + (g115 222 9)) 0 g115
theorem F223_69 {L : Nat} {xs : Nat → Int32} {d : Nat} (K : Nat) (k16 : Int32 → Int32 → Int32 → Int32 → zS → Option (Int32 × zS)) (hk16 : ∀ (x1 : Int32) (x2 : Int32) (x3 : Int32) (x4 : Int32) (g : zS) (r : Int32) (g' : zS), k16 x1 x2 x3 x4 g = some (r, g') → zG2 L xs (d + 1) zm223 16 [some (.ref 222), some (.int x1), some (.int x2), some (.int x3), some (.int x4)] [] g (some (.int r)) g') (x1 : Int32) (x3 : Int32) (x4 : Int32) (xs0 : Int32) (xs1 : Int32) (g : zS) (r : Int32) (g' : zS) (hE : f223_69 K k16 x1 x3 x4 xs0 xs1 g = some (r, g')) : zG2 L xs (d + 1) zm223 69 [some (.ref 222), some (.int x1), none, some (.int x3), some (.int x4)] [.int xs1, .int xs0] g (some (.int r)) g' := by
  unfold f223_69 at hE
  refine y_iadd k223_69 ?_
  refine y_istore_n (ls2 := [some (.ref 222), some (.int x1), some (.int (xs0 + xs1)), some (.int x3), some (.int x4)]) k223_70 rfl (Nat.le_of_ble_eq_true rfl) rfl ?_
  refine y_iinc (v := (x4 + 1)) (ls2 := [some (.ref 222), some (.int x1), some (.int (xs0 + xs1)), some (.int x3), some (.int (x4 + 1))]) k223_71 rfl rfl (by rw [oi_1]) rfl ?_
  refine y_goto (tgt := 16) k223_74 (by decide) ?_
  exact hk16 x1 (xs0 + xs1) x3 (x4 + 1) _ _ _ hE
theorem F223_16 {L : Nat} {xs : Nat → Int32} {d : Nat} (K : Nat) : ∀ (n : Nat) (x1 : Int32) (x2 : Int32) (x3 : Int32) (x4 : Int32) (g : zS) (r : Int32) (g' : zS) (hE : f223_16 K n x1 x2 x3 x4 g = some (r, g')), zG2 L xs (d + 1) zm223 16 [some (.ref 222), some (.int x1), some (.int x2), some (.int x3), some (.int x4)] [] g (some (.int r)) g' := by
  intro n
  induction n with
  | zero => intro x1 x2 x3 x4  g r g' hE; cases hE
  | succ n ih =>
    intro x1 x2 x3 x4  g r g' hE
    rw [f223_16] at hE
    refine y_iload k223_16 rfl ?_
    refine y_aload_n k223_18 rfl rfl ?_
    refine y_getI k223_19 fk_10_185 sh222 rfl ?_
    by_cases c114 : (g 222 18) ≤ x4
    · rw [if_pos c114] at hE
      refine y_icT (tgt := 77) k223_22 (by decide) c114 ?_
      refine y_iload_n k223_77 rfl ?_
      obtain ⟨rfl, rfl⟩ := zpr hE
      exact y_iret k223_78 rfl
    · rw [if_neg c114] at hE
      refine y_icF 77 k223_22 (by decide) c114 ?_
      refine y_iload_n k223_25 rfl ?_
      refine y_aload_n k223_26 rfl rfl ?_
      refine y_getR k223_27 fk_10_42 sh222 rfl ?_
      refine y_iload k223_30 rfl ?_
      obtain ⟨hc, hE⟩ := zif_some hE
      refine y_iald k223_32 ar232 (zinN ln232 hc) ?_
      refine y_iconst (v := (-1)) k223_33 oi_m1 ?_
      by_cases c113 : ¬ (g 232 x4.toNatClampNeg) = (-1)
      · rw [if_pos c113] at hE
        refine y_icT (tgt := 41) k223_34 (by decide) c113 ?_
        refine y_sipush (v := 1000) k223_41 s16_1000 ?_
        refine y_aload_n k223_44 rfl rfl ?_
        refine y_getR k223_45 fk_10_7 sh222 rfl ?_
        refine y_bipush (v := 17) k223_48 b8_17 ?_
        refine y_bipush (v := 10) k223_50 b8_10 ?_
        refine y_iload_n k223_52 rfl ?_
        refine y_imul k223_53 ?_
        refine y_iadd k223_54 ?_
        refine y_aload_n k223_55 rfl rfl ?_
        refine y_getR k223_56 fk_10_42 sh222 rfl ?_
        refine y_iload k223_59 rfl ?_
        obtain ⟨hc, hE⟩ := zif_some hE
        refine y_iald k223_61 ar232 (zinN ln232 hc) ?_
        refine y_iadd k223_62 ?_
        obtain ⟨hc, hE⟩ := zif_some hE
        refine y_iald k223_63 ar223 (zinN ln223 hc) ?_
        refine y_iconst (v := 1) k223_64 oi_1 ?_
        refine y_iadd k223_65 ?_
        refine y_imul k223_66 ?_
        refine y_iload_n k223_67 rfl ?_
        obtain ⟨hc, hE⟩ := zif_some hE
        refine y_idiv k223_68 hc ?_
        exact y_weak (ls0 := [some (.ref 222), some (.int x1), none, some (.int x3), some (.int x4)]) ⟨rfl, rfl, rfl, rfl, rfl, trivial⟩ (F223_69 K (f223_16 K n) ih x1 x3 x4 x2 ((1000 * ((g 223 ((17 + (10 * x1)) + (g 232 x4.toNatClampNeg)).toNatClampNeg) + 1)) / x3) _ _ _ hE)
      · rw [if_neg c113] at hE
        refine y_icF 41 k223_34 (by decide) c113 ?_
        refine y_iconst (v := 0) k223_37 oi_0 ?_
        refine y_goto (tgt := 69) k223_38 (by decide) ?_
        exact y_weak (ls0 := [some (.ref 222), some (.int x1), none, some (.int x3), some (.int x4)]) ⟨rfl, rfl, rfl, rfl, rfl, trivial⟩ (F223_69 K (f223_16 K n) ih x1 x3 x4 x2 0 _ _ _ hE)
theorem F223 {L : Nat} {xs : Nat → Int32} (K : Nat) (x1 : Int32) (g : zS) (r : Int32) (g' : zS) (hE : f223 K x1 g = some (r, g')) (d : Nat) : zE2 L xs (d + 2) 223 [.ref 222, .int x1] g (some (.int r)) g' := by
  refine y_ev (n := 0) (d := d + 1) (ls := [some (.ref 222), some (.int x1), none, none, none]) zm223_get (by decide) (Nat.le_of_ble_eq_true rfl) rfl ?_
  unfold f223 at hE
  refine y_iconst (v := 0) k223_0 oi_0 ?_
  refine y_istore_n (ls2 := [some (.ref 222), some (.int x1), some (.int 0), none, none]) k223_1 rfl (Nat.le_of_ble_eq_true rfl) rfl ?_
  refine y_aload_n k223_2 rfl rfl ?_
  refine y_iload_n k223_3 rfl ?_
  obtain ⟨r116, g115, hc117, hE⟩ := zbd_some hE
  refine y_invVi (j := 171) (As := [.int x1]) (rest := []) (N := zm171) (F171 K x1 _ r116 g115 hc117 (d + 0)) k223_4 lk_10_231 zm171_get na171 rfl (Nat.le_of_ble_eq_true rfl) sh222 (by decide) rfl ?_
  refine y_aload_n k223_7 rfl rfl ?_
  refine y_getI k223_8 fk_10_149 sh222 rfl ?_
  refine y_iadd k223_11 ?_
  refine y_istore_n (ls2 := [some (.ref 222), some (.int x1), some (.int 0), some (.int (r116 + (g115 222 9))), none]) k223_12 rfl (Nat.le_of_ble_eq_true rfl) rfl ?_
  refine y_iconst (v := 0) k223_13 oi_0 ?_
  refine y_istore (ls2 := [some (.ref 222), some (.int x1), some (.int 0), some (.int (r116 + (g115 222 9))), some (.int 0)]) k223_14 rfl (Nat.le_of_ble_eq_true rfl) rfl ?_
  exact F223_16 K K x1 0 (r116 + (g115 222 9)) 0 _ _ _ hE
-- AdjectiveCouponsModel.netOfSet
def f229_30 (K : Nat) (k4 : Int32 → Int32 → Int32 → zS → Option (Int32 × zS)) (x1 : Int32) (x3 : Int32) (xs0 : Int32) (xs1 : Int32) (g : zS) : Option (Int32 × zS) := k4 x1 (xs0 + xs1) (x3 + 1) g
def f229_4 (K : Nat) : Nat → Int32 → Int32 → Int32 → zS → Option (Int32 × zS)
  | 0, _, _, _, _ => none
  | n + 1, x1, x2, x3, g => if (g 222 14) ≤ x3 then some (x2, g) else (zbd (f177 K x1 x3 g) fun r126 g125 => if r126 = 0 then f229_30 K (f229_4 K n) x1 x3 x2 0 g125 else (zbd (f227 K x3 g125) fun r129 g128 => f229_30 K (f229_4 K n) x1 x3 x2 r129 g128))
def f229 (K : Nat) (x1 : Int32) (g : zS) : Option (Int32 × zS) := f229_4 K K x1 0 0 g
theorem F229_30 {L : Nat} {xs : Nat → Int32} {d : Nat} (K : Nat) (k4 : Int32 → Int32 → Int32 → zS → Option (Int32 × zS)) (hk4 : ∀ (x1 : Int32) (x2 : Int32) (x3 : Int32) (g : zS) (r : Int32) (g' : zS), k4 x1 x2 x3 g = some (r, g') → zG2 L xs (d + 1) zm229 4 [some (.ref 222), some (.int x1), some (.int x2), some (.int x3)] [] g (some (.int r)) g') (x1 : Int32) (x3 : Int32) (xs0 : Int32) (xs1 : Int32) (g : zS) (r : Int32) (g' : zS) (hE : f229_30 K k4 x1 x3 xs0 xs1 g = some (r, g')) : zG2 L xs (d + 1) zm229 30 [some (.ref 222), some (.int x1), none, some (.int x3)] [.int xs1, .int xs0] g (some (.int r)) g' := by
  unfold f229_30 at hE
  refine y_iadd k229_30 ?_
  refine y_istore_n (ls2 := [some (.ref 222), some (.int x1), some (.int (xs0 + xs1)), some (.int x3)]) k229_31 rfl (Nat.le_of_ble_eq_true rfl) rfl ?_
  refine y_iinc (v := (x3 + 1)) (ls2 := [some (.ref 222), some (.int x1), some (.int (xs0 + xs1)), some (.int (x3 + 1))]) k229_32 rfl rfl (by rw [oi_1]) rfl ?_
  refine y_goto (tgt := 4) k229_35 (by decide) ?_
  exact hk4 x1 (xs0 + xs1) (x3 + 1) _ _ _ hE
theorem F229_4 {L : Nat} {xs : Nat → Int32} {d : Nat} (K : Nat) : ∀ (n : Nat) (x1 : Int32) (x2 : Int32) (x3 : Int32) (g : zS) (r : Int32) (g' : zS) (hE : f229_4 K n x1 x2 x3 g = some (r, g')), zG2 L xs (d + 1) zm229 4 [some (.ref 222), some (.int x1), some (.int x2), some (.int x3)] [] g (some (.int r)) g' := by
  intro n
  induction n with
  | zero => intro x1 x2 x3  g r g' hE; cases hE
  | succ n ih =>
    intro x1 x2 x3  g r g' hE
    rw [f229_4] at hE
    refine y_iload_n k229_4 rfl ?_
    refine y_aload_n k229_5 rfl rfl ?_
    refine y_getI k229_6 fk_10_155 sh222 rfl ?_
    by_cases c132 : (g 222 14) ≤ x3
    · rw [if_pos c132] at hE
      refine y_icT (tgt := 38) k229_9 (by decide) c132 ?_
      refine y_iload_n k229_38 rfl ?_
      obtain ⟨rfl, rfl⟩ := zpr hE
      exact y_iret k229_39 rfl
    · rw [if_neg c132] at hE
      refine y_icF 38 k229_9 (by decide) c132 ?_
      refine y_iload_n k229_12 rfl ?_
      refine y_iload_n k229_13 rfl ?_
      refine y_iload_n k229_14 rfl ?_
      obtain ⟨r126, g125, hc127, hE⟩ := zbd_some hE
      refine y_invSi (j := 177) (As := [.int x1, .int x3]) (rest := [.int x2]) (N := zm177) (F177 K x1 x3 _ r126 g125 hc127 (d + 0)) k229_15 lk_10_203 zm177_get na177 rfl (Nat.le_of_ble_eq_true rfl) ?_
      by_cases c131 : r126 = 0
      · rw [if_pos c131] at hE
        refine y_ifT (tgt := 29) k229_18 (by decide) c131 ?_
        refine y_iconst (v := 0) k229_29 oi_0 ?_
        exact y_weak (ls0 := [some (.ref 222), some (.int x1), none, some (.int x3)]) ⟨rfl, rfl, rfl, rfl, trivial⟩ (F229_30 K (f229_4 K n) ih x1 x3 x2 0 _ _ _ hE)
      · rw [if_neg c131] at hE
        refine y_ifF 29 k229_18 (by decide) c131 ?_
        refine y_aload_n k229_21 rfl rfl ?_
        refine y_iload_n k229_22 rfl ?_
        obtain ⟨r129, g128, hc130, hE⟩ := zbd_some hE
        refine y_invVi (j := 227) (As := [.int x3]) (rest := [.int x2]) (N := zm227) (F227 K x3 _ r129 g128 hc130 (d + 0)) k229_23 lk_10_313 zm227_get na227 rfl (Nat.le_of_ble_eq_true rfl) sh222 (by decide) rfl ?_
        refine y_goto (tgt := 30) k229_26 (by decide) ?_
        exact y_weak (ls0 := [some (.ref 222), some (.int x1), none, some (.int x3)]) ⟨rfl, rfl, rfl, rfl, trivial⟩ (F229_30 K (f229_4 K n) ih x1 x3 x2 r129 _ _ _ hE)
theorem F229 {L : Nat} {xs : Nat → Int32} (K : Nat) (x1 : Int32) (g : zS) (r : Int32) (g' : zS) (hE : f229 K x1 g = some (r, g')) (d : Nat) : zE2 L xs (d + 2) 229 [.ref 222, .int x1] g (some (.int r)) g' := by
  refine y_ev (n := 0) (d := d + 1) (ls := [some (.ref 222), some (.int x1), none, none]) zm229_get (by decide) (Nat.le_of_ble_eq_true rfl) rfl ?_
  unfold f229 at hE
  refine y_iconst (v := 0) k229_0 oi_0 ?_
  refine y_istore_n (ls2 := [some (.ref 222), some (.int x1), some (.int 0), none]) k229_1 rfl (Nat.le_of_ble_eq_true rfl) rfl ?_
  refine y_iconst (v := 0) k229_2 oi_0 ?_
  refine y_istore_n (ls2 := [some (.ref 222), some (.int x1), some (.int 0), some (.int 0)]) k229_3 rfl (Nat.le_of_ble_eq_true rfl) rfl ?_
  exact F229_4 K K x1 0 0 _ _ _ hE
-- AdjectiveCouponsModel.wordOf
def f152_19 (K : Nat) (xs0 : Int32) (g : zS) : Option (Int32 × zS) := if xs0 = (-1) then zbd (f154 K 14025906 5 0 g) fun r209 g208 => if r209 = 0 then zbd (f154 K 175572227 6 0 g208) fun r212 g211 => if r212 = 0 then zbd (f154 K 485806130 6 0 g211) fun r215 g214 => if r215 = 0 then zbd (f154 K 20100142 5 0 g214) fun r218 g217 => if r218 = 0 then zbd (f154 K 5351156 5 0 g217) fun r221 g220 => if r221 = 0 then zbd (f154 K 12982003 5 0 g220) fun r224 g223 => if r224 = 0 then zbd (f154 K 143661 4 0 g223) fun r227 g226 => if r227 = 0 then some ((-1), g226) else (some (15, g226)) else (some (14, g223)) else (some (13, g220)) else (some (12, g217)) else (some (11, g214)) else (some (6, g211)) else (some (0, g208)) else (some (xs0, g))
def f152 (K : Nat) (g : zS) : Option (Int32 × zS) := zbd (f153 K  g) fun r238 g237 => if r238 = (-1) then zbd (f155 K  g237) fun r241 g240 => f152_19 K r241 g240 else (zbd (f153 K  g237) fun r244 g243 => f152_19 K r244 g243)
theorem F152_19 {L : Nat} {xs : Nat → Int32} {d : Nat} (K : Nat) (xs0 : Int32) (g : zS) (r : Int32) (g' : zS) (hE : f152_19 K xs0 g = some (r, g')) : zG2 L xs (d + 2) zm152 19 [some (.ref 222), none] [.int xs0] g (some (.int r)) g' := by
  unfold f152_19 at hE
  refine y_istore_n (ls2 := [some (.ref 222), some (.int xs0)]) k152_19 rfl (Nat.le_of_ble_eq_true rfl) rfl ?_
  refine y_iload_n k152_20 rfl ?_
  refine y_iconst (v := (-1)) k152_21 oi_m1 ?_
  by_cases c236 : xs0 = (-1)
  · rw [if_pos c236] at hE
    refine y_icT (tgt := 29) k152_22 (by decide) c236 ?_
    refine y_aload_n k152_29 rfl rfl ?_
    refine y_ldc (v := 14025906) k152_30 ci_10_105 ?_
    refine y_iconst (v := 5) k152_32 oi_5 ?_
    refine y_iconst (v := 0) k152_33 oi_0 ?_
    obtain ⟨r209, g208, hc210, hE⟩ := zbd_some hE
    refine y_invVi (j := 154) (As := [.int 14025906, .int 5, .int 0]) (rest := []) (N := zm154) (F154 K 14025906 5 0 _ r209 g208 hc210 (d + 1)) k152_34 lk_10_86 zm154_get na154 rfl (Nat.le_of_ble_eq_true rfl) sh222 (by decide) rfl ?_
    by_cases c235 : r209 = 0
    · rw [if_pos c235] at hE
      refine y_ifT (tgt := 44) k152_37 (by decide) c235 ?_
      refine y_aload_n k152_44 rfl rfl ?_
      refine y_ldc (v := 175572227) k152_45 ci_10_106 ?_
      refine y_bipush (v := 6) k152_47 b8_6 ?_
      refine y_iconst (v := 0) k152_49 oi_0 ?_
      obtain ⟨r212, g211, hc213, hE⟩ := zbd_some hE
      refine y_invVi (j := 154) (As := [.int 175572227, .int 6, .int 0]) (rest := []) (N := zm154) (F154 K 175572227 6 0 _ r212 g211 hc213 (d + 1)) k152_50 lk_10_86 zm154_get na154 rfl (Nat.le_of_ble_eq_true rfl) sh222 (by decide) rfl ?_
      by_cases c234 : r212 = 0
      · rw [if_pos c234] at hE
        refine y_ifT (tgt := 61) k152_53 (by decide) c234 ?_
        refine y_aload_n k152_61 rfl rfl ?_
        refine y_ldc (v := 485806130) k152_62 ci_10_107 ?_
        refine y_bipush (v := 6) k152_64 b8_6 ?_
        refine y_iconst (v := 0) k152_66 oi_0 ?_
        obtain ⟨r215, g214, hc216, hE⟩ := zbd_some hE
        refine y_invVi (j := 154) (As := [.int 485806130, .int 6, .int 0]) (rest := []) (N := zm154) (F154 K 485806130 6 0 _ r215 g214 hc216 (d + 1)) k152_67 lk_10_86 zm154_get na154 rfl (Nat.le_of_ble_eq_true rfl) sh222 (by decide) rfl ?_
        by_cases c233 : r215 = 0
        · rw [if_pos c233] at hE
          refine y_ifT (tgt := 78) k152_70 (by decide) c233 ?_
          refine y_aload_n k152_78 rfl rfl ?_
          refine y_ldc (v := 20100142) k152_79 ci_10_108 ?_
          refine y_iconst (v := 5) k152_81 oi_5 ?_
          refine y_iconst (v := 0) k152_82 oi_0 ?_
          obtain ⟨r218, g217, hc219, hE⟩ := zbd_some hE
          refine y_invVi (j := 154) (As := [.int 20100142, .int 5, .int 0]) (rest := []) (N := zm154) (F154 K 20100142 5 0 _ r218 g217 hc219 (d + 1)) k152_83 lk_10_86 zm154_get na154 rfl (Nat.le_of_ble_eq_true rfl) sh222 (by decide) rfl ?_
          by_cases c232 : r218 = 0
          · rw [if_pos c232] at hE
            refine y_ifT (tgt := 94) k152_86 (by decide) c232 ?_
            refine y_aload_n k152_94 rfl rfl ?_
            refine y_ldc (v := 5351156) k152_95 ci_10_109 ?_
            refine y_iconst (v := 5) k152_97 oi_5 ?_
            refine y_iconst (v := 0) k152_98 oi_0 ?_
            obtain ⟨r221, g220, hc222, hE⟩ := zbd_some hE
            refine y_invVi (j := 154) (As := [.int 5351156, .int 5, .int 0]) (rest := []) (N := zm154) (F154 K 5351156 5 0 _ r221 g220 hc222 (d + 1)) k152_99 lk_10_86 zm154_get na154 rfl (Nat.le_of_ble_eq_true rfl) sh222 (by decide) rfl ?_
            by_cases c231 : r221 = 0
            · rw [if_pos c231] at hE
              refine y_ifT (tgt := 110) k152_102 (by decide) c231 ?_
              refine y_aload_n k152_110 rfl rfl ?_
              refine y_ldc (v := 12982003) k152_111 ci_10_110 ?_
              refine y_iconst (v := 5) k152_113 oi_5 ?_
              refine y_iconst (v := 0) k152_114 oi_0 ?_
              obtain ⟨r224, g223, hc225, hE⟩ := zbd_some hE
              refine y_invVi (j := 154) (As := [.int 12982003, .int 5, .int 0]) (rest := []) (N := zm154) (F154 K 12982003 5 0 _ r224 g223 hc225 (d + 1)) k152_115 lk_10_86 zm154_get na154 rfl (Nat.le_of_ble_eq_true rfl) sh222 (by decide) rfl ?_
              by_cases c230 : r224 = 0
              · rw [if_pos c230] at hE
                refine y_ifT (tgt := 126) k152_118 (by decide) c230 ?_
                refine y_aload_n k152_126 rfl rfl ?_
                refine y_ldc (v := 143661) k152_127 ci_10_111 ?_
                refine y_iconst (v := 4) k152_129 oi_4 ?_
                refine y_iconst (v := 0) k152_130 oi_0 ?_
                obtain ⟨r227, g226, hc228, hE⟩ := zbd_some hE
                refine y_invVi (j := 154) (As := [.int 143661, .int 4, .int 0]) (rest := []) (N := zm154) (F154 K 143661 4 0 _ r227 g226 hc228 (d + 1)) k152_131 lk_10_86 zm154_get na154 rfl (Nat.le_of_ble_eq_true rfl) sh222 (by decide) rfl ?_
                by_cases c229 : r227 = 0
                · rw [if_pos c229] at hE
                  refine y_ifT (tgt := 142) k152_134 (by decide) c229 ?_
                  refine y_iconst (v := (-1)) k152_142 oi_m1 ?_
                  obtain ⟨rfl, rfl⟩ := zpr hE
                  exact y_iret k152_143 rfl
                · rw [if_neg c229] at hE
                  refine y_ifF 142 k152_134 (by decide) c229 ?_
                  refine y_bipush (v := 15) k152_137 b8_15 ?_
                  refine y_goto (tgt := 143) k152_139 (by decide) ?_
                  obtain ⟨rfl, rfl⟩ := zpr hE
                  exact y_iret k152_143 rfl
              · rw [if_neg c230] at hE
                refine y_ifF 126 k152_118 (by decide) c230 ?_
                refine y_bipush (v := 14) k152_121 b8_14 ?_
                refine y_goto (tgt := 143) k152_123 (by decide) ?_
                obtain ⟨rfl, rfl⟩ := zpr hE
                exact y_iret k152_143 rfl
            · rw [if_neg c231] at hE
              refine y_ifF 110 k152_102 (by decide) c231 ?_
              refine y_bipush (v := 13) k152_105 b8_13 ?_
              refine y_goto (tgt := 143) k152_107 (by decide) ?_
              obtain ⟨rfl, rfl⟩ := zpr hE
              exact y_iret k152_143 rfl
          · rw [if_neg c232] at hE
            refine y_ifF 94 k152_86 (by decide) c232 ?_
            refine y_bipush (v := 12) k152_89 b8_12 ?_
            refine y_goto (tgt := 143) k152_91 (by decide) ?_
            obtain ⟨rfl, rfl⟩ := zpr hE
            exact y_iret k152_143 rfl
        · rw [if_neg c233] at hE
          refine y_ifF 78 k152_70 (by decide) c233 ?_
          refine y_bipush (v := 11) k152_73 b8_11 ?_
          refine y_goto (tgt := 143) k152_75 (by decide) ?_
          obtain ⟨rfl, rfl⟩ := zpr hE
          exact y_iret k152_143 rfl
      · rw [if_neg c234] at hE
        refine y_ifF 61 k152_53 (by decide) c234 ?_
        refine y_bipush (v := 6) k152_56 b8_6 ?_
        refine y_goto (tgt := 143) k152_58 (by decide) ?_
        obtain ⟨rfl, rfl⟩ := zpr hE
        exact y_iret k152_143 rfl
    · rw [if_neg c235] at hE
      refine y_ifF 44 k152_37 (by decide) c235 ?_
      refine y_iconst (v := 0) k152_40 oi_0 ?_
      refine y_goto (tgt := 143) k152_41 (by decide) ?_
      obtain ⟨rfl, rfl⟩ := zpr hE
      exact y_iret k152_143 rfl
  · rw [if_neg c236] at hE
    refine y_icF 29 k152_22 (by decide) c236 ?_
    refine y_iload_n k152_25 rfl ?_
    refine y_goto (tgt := 143) k152_26 (by decide) ?_
    obtain ⟨rfl, rfl⟩ := zpr hE
    exact y_iret k152_143 rfl
theorem F152 {L : Nat} {xs : Nat → Int32} (K : Nat) (g : zS) (r : Int32) (g' : zS) (hE : f152 K  g = some (r, g')) (d : Nat) : zE2 L xs (d + 3) 152 [.ref 222] g (some (.int r)) g' := by
  refine y_ev (n := 0) (d := d + 2) (ls := [some (.ref 222), none]) zm152_get (by decide) (Nat.le_of_ble_eq_true rfl) rfl ?_
  unfold f152 at hE
  refine y_aload_n k152_0 rfl rfl ?_
  obtain ⟨r238, g237, hc239, hE⟩ := zbd_some hE
  refine y_invVi (j := 153) (As := []) (rest := []) (N := zm153) (F153 K  _ r238 g237 hc239 (d + 0)) k152_1 lk_10_98 zm153_get na153 rfl (Nat.le_of_ble_eq_true rfl) sh222 (by decide) rfl ?_
  refine y_iconst (v := (-1)) k152_4 oi_m1 ?_
  by_cases c246 : r238 = (-1)
  · rw [if_pos c246] at hE
    refine y_icT (tgt := 15) k152_5 (by decide) c246 ?_
    refine y_aload_n k152_15 rfl rfl ?_
    obtain ⟨r241, g240, hc242, hE⟩ := zbd_some hE
    refine y_invVi (j := 155) (As := []) (rest := []) (N := zm155) (F155 K  _ r241 g240 hc242 (d + 0)) k152_16 lk_10_102 zm155_get na155 rfl (Nat.le_of_ble_eq_true rfl) sh222 (by decide) rfl ?_
    exact F152_19 K r241 _ _ _ hE
  · rw [if_neg c246] at hE
    refine y_icF 15 k152_5 (by decide) c246 ?_
    refine y_aload_n k152_8 rfl rfl ?_
    obtain ⟨r244, g243, hc245, hE⟩ := zbd_some hE
    refine y_invVi (j := 153) (As := []) (rest := []) (N := zm153) (F153 K  _ r244 g243 hc245 (d + 0)) k152_9 lk_10_98 zm153_get na153 rfl (Nat.le_of_ble_eq_true rfl) sh222 (by decide) rfl ?_
    refine y_goto (tgt := 19) k152_12 (by decide) ?_
    exact F152_19 K r244 _ _ _ hE
-- AdjectiveCouponsModel.reads
def f159_51 (K : Nat) : Nat → Int32 → Int32 → Int32 → Int32 → Int32 → zS → Option (Int32 × zS)
  | 0, _, _, _, _, _, _ => none
  | n + 1, x1, x2, x3, x4, x5, g => if (g 222 24) ≤ x5 then zbd (f146 K x4.toInt64 x2.toInt64 x3.toInt64 g) fun r138 g137 => if ¬ r138 = 0 then if zin (((4 * (g137 222 6)) + 1) + x1) 56 then zbd (f149 K  (zup g137 226 (((4 * (g137 222 6)) + 1) + x1).toNatClampNeg x4)) fun _ g140 => some (1, g140) else none else (some (0, g137)) else if zin x5 160 then (f159_51 K n) x1 x2 x3 (((10 * x4) + (g 225 x5.toNatClampNeg)) - 48) (x5 + 1) g else none
def f159 (K : Nat) (x1 : Int32) (x2 : Int32) (x3 : Int32) (g : zS) : Option (Int32 × zS) := if (g 222 23) = (g 222 4) then some (0, g) else if zin (g 222 23) 160 then zbd (f150 K (g 225 (g 222 23).toNatClampNeg) g) fun r146 g145 => if ¬ r146 = 2 then some (0, g145) else if ((g145 222 24) - (g145 222 23)) ≤ 2 then f159_51 K K x1 x2 x3 0 (g145 222 23) g145 else (some (0, g145)) else none
theorem F159_51 {L : Nat} {xs : Nat → Int32} {d : Nat} (K : Nat) : ∀ (n : Nat) (x1 : Int32) (x2 : Int32) (x3 : Int32) (x4 : Int32) (x5 : Int32) (g : zS) (r : Int32) (g' : zS) (hE : f159_51 K n x1 x2 x3 x4 x5 g = some (r, g')), zG2 L xs (d + 2) zm159 51 [some (.ref 222), some (.int x1), some (.int x2), some (.int x3), some (.int x4), some (.int x5)] [] g (some (.int r)) g' := by
  intro n
  induction n with
  | zero => intro x1 x2 x3 x4 x5  g r g' hE; cases hE
  | succ n ih =>
    intro x1 x2 x3 x4 x5  g r g' hE
    rw [f159_51] at hE
    refine y_iload k159_51 rfl ?_
    refine y_aload_n k159_53 rfl rfl ?_
    refine y_getI k159_54 fk_10_82 sh222 rfl ?_
    by_cases c144 : (g 222 24) ≤ x5
    · rw [if_pos c144] at hE
      refine y_icT (tgt := 84) k159_57 (by decide) c144 ?_
      refine y_iload k159_84 rfl ?_
      refine y_i2l k159_86 ?_
      refine y_iload_n k159_87 rfl ?_
      refine y_i2l k159_88 ?_
      refine y_iload_n k159_89 rfl ?_
      refine y_i2l k159_90 ?_
      obtain ⟨r138, g137, hc139, hE⟩ := zbd_some hE
      refine y_invSi (j := 146) (As := [.long x4.toInt64, .long x2.toInt64, .long x3.toInt64]) (rest := []) (N := zm146) (F146 K x4.toInt64 x2.toInt64 x3.toInt64 _ r138 g137 hc139 (d + 1)) k159_91 lk_10_65 zm146_get na146 rfl (Nat.le_of_ble_eq_true rfl) ?_
      by_cases c143 : ¬ r138 = 0
      · rw [if_pos c143] at hE
        refine y_ifT (tgt := 99) k159_94 (by decide) c143 ?_
        refine y_aload_n k159_99 rfl rfl ?_
        refine y_getR k159_100 fk_10_20 sh222 rfl ?_
        refine y_iconst (v := 4) k159_103 oi_4 ?_
        refine y_aload_n k159_104 rfl rfl ?_
        refine y_getI k159_105 fk_10_112 sh222 rfl ?_
        refine y_imul k159_108 ?_
        refine y_iconst (v := 1) k159_109 oi_1 ?_
        refine y_iadd k159_110 ?_
        refine y_iload_n k159_111 rfl ?_
        refine y_iadd k159_112 ?_
        refine y_iload k159_113 rfl ?_
        obtain ⟨hc, hE⟩ := zif_some hE
        refine y_iast k159_115 ar226 (zinN ln226 hc) ?_
        refine y_aload_n k159_116 rfl rfl ?_
        obtain ⟨u141, g140, hc142, hE⟩ := zbd_some hE
        refine y_invVv (j := 149) (As := []) (rest := []) (N := zm149) (F149 K  _ u141 g140 hc142 (d + 0)) k159_117 lk_10_115 zm149_get na149 rfl (Nat.le_of_ble_eq_true rfl) sh222 (by decide) rfl ?_
        refine y_iconst (v := 1) k159_120 oi_1 ?_
        obtain ⟨rfl, rfl⟩ := zpr hE
        exact y_zret k159_121 rfl (by decide)
      · rw [if_neg c143] at hE
        refine y_ifF 99 k159_94 (by decide) c143 ?_
        refine y_iconst (v := 0) k159_97 oi_0 ?_
        obtain ⟨rfl, rfl⟩ := zpr hE
        exact y_zret k159_98 rfl (by decide)
    · rw [if_neg c144] at hE
      refine y_icF 84 k159_57 (by decide) c144 ?_
      refine y_bipush (v := 10) k159_60 b8_10 ?_
      refine y_iload k159_62 rfl ?_
      refine y_imul k159_64 ?_
      refine y_aload_n k159_65 rfl rfl ?_
      refine y_getR k159_66 fk_10_17 sh222 rfl ?_
      refine y_iload k159_69 rfl ?_
      obtain ⟨hc, hE⟩ := zif_some hE
      refine y_iald k159_71 ar225 (zinN ln225 hc) ?_
      refine y_iadd k159_72 ?_
      refine y_bipush (v := 48) k159_73 b8_48 ?_
      refine y_isub k159_75 ?_
      refine y_istore (ls2 := [some (.ref 222), some (.int x1), some (.int x2), some (.int x3), some (.int (((10 * x4) + (g 225 x5.toNatClampNeg)) - 48)), some (.int x5)]) k159_76 rfl (Nat.le_of_ble_eq_true rfl) rfl ?_
      refine y_iinc (v := (x5 + 1)) (ls2 := [some (.ref 222), some (.int x1), some (.int x2), some (.int x3), some (.int (((10 * x4) + (g 225 x5.toNatClampNeg)) - 48)), some (.int (x5 + 1))]) k159_78 rfl rfl (by rw [oi_1]) rfl ?_
      refine y_goto (tgt := 51) k159_81 (by decide) ?_
      exact ih x1 x2 x3 (((10 * x4) + (g 225 x5.toNatClampNeg)) - 48) (x5 + 1) _ _ _ hE
theorem F159 {L : Nat} {xs : Nat → Int32} (K : Nat) (x1 : Int32) (x2 : Int32) (x3 : Int32) (g : zS) (r : Int32) (g' : zS) (hE : f159 K x1 x2 x3 g = some (r, g')) (d : Nat) : zE2 L xs (d + 3) 159 [.ref 222, .int x1, .int x2, .int x3] g (some (.int r)) g' := by
  refine y_ev (n := 0) (d := d + 2) (ls := [some (.ref 222), some (.int x1), some (.int x2), some (.int x3), none, none]) zm159_get (by decide) (Nat.le_of_ble_eq_true rfl) rfl ?_
  unfold f159 at hE
  refine y_aload_n k159_0 rfl rfl ?_
  refine y_getI k159_1 fk_10_75 sh222 rfl ?_
  refine y_aload_n k159_4 rfl rfl ?_
  refine y_getI k159_5 fk_10_69 sh222 rfl ?_
  by_cases c150 : (g 222 23) = (g 222 4)
  · rw [if_pos c150] at hE
    refine y_icT (tgt := 40) k159_8 (by decide) c150 ?_
    refine y_iconst (v := 0) k159_40 oi_0 ?_
    obtain ⟨rfl, rfl⟩ := zpr hE
    exact y_zret k159_41 rfl (by decide)
  · rw [if_neg c150] at hE
    refine y_icF 40 k159_8 (by decide) c150 ?_
    refine y_aload_n k159_11 rfl rfl ?_
    refine y_getR k159_12 fk_10_17 sh222 rfl ?_
    refine y_aload_n k159_15 rfl rfl ?_
    refine y_getI k159_16 fk_10_75 sh222 rfl ?_
    obtain ⟨hc, hE⟩ := zif_some hE
    refine y_iald k159_19 ar225 (zinN ln225 hc) ?_
    obtain ⟨r146, g145, hc147, hE⟩ := zbd_some hE
    refine y_invSi (j := 150) (As := [.int (g 225 (g 222 23).toNatClampNeg)]) (rest := []) (N := zm150) (F150 K (g 225 (g 222 23).toNatClampNeg) _ r146 g145 hc147 (d + 1)) k159_20 lk_10_78 zm150_get na150 rfl (Nat.le_of_ble_eq_true rfl) ?_
    refine y_iconst (v := 2) k159_23 oi_2 ?_
    by_cases c149 : ¬ r146 = 2
    · rw [if_pos c149] at hE
      refine y_icT (tgt := 40) k159_24 (by decide) c149 ?_
      refine y_iconst (v := 0) k159_40 oi_0 ?_
      obtain ⟨rfl, rfl⟩ := zpr hE
      exact y_zret k159_41 rfl (by decide)
    · rw [if_neg c149] at hE
      refine y_icF 40 k159_24 (by decide) c149 ?_
      refine y_aload_n k159_27 rfl rfl ?_
      refine y_getI k159_28 fk_10_82 sh222 rfl ?_
      refine y_aload_n k159_31 rfl rfl ?_
      refine y_getI k159_32 fk_10_75 sh222 rfl ?_
      refine y_isub k159_35 ?_
      refine y_iconst (v := 2) k159_36 oi_2 ?_
      by_cases c148 : ((g145 222 24) - (g145 222 23)) ≤ 2
      · rw [if_pos c148] at hE
        refine y_icT (tgt := 42) k159_37 (by decide) c148 ?_
        refine y_iconst (v := 0) k159_42 oi_0 ?_
        refine y_istore (ls2 := [some (.ref 222), some (.int x1), some (.int x2), some (.int x3), some (.int 0), none]) k159_43 rfl (Nat.le_of_ble_eq_true rfl) rfl ?_
        refine y_aload_n k159_45 rfl rfl ?_
        refine y_getI k159_46 fk_10_75 sh222 rfl ?_
        refine y_istore (ls2 := [some (.ref 222), some (.int x1), some (.int x2), some (.int x3), some (.int 0), some (.int (g145 222 23))]) k159_49 rfl (Nat.le_of_ble_eq_true rfl) rfl ?_
        exact F159_51 K K x1 x2 x3 0 (g145 222 23) _ _ _ hE
      · rw [if_neg c148] at hE
        refine y_icF 42 k159_37 (by decide) c148 ?_
        refine y_iconst (v := 0) k159_40 oi_0 ?_
        obtain ⟨rfl, rfl⟩ := zpr hE
        exact y_zret k159_41 rfl (by decide)
-- AdjectiveCouponsModel.tell
def f161_128 (K : Nat) (xs1 : Int32) (xs2 : Int32) (g : zS) : Option (Unit × zS) := some ((), (zup g 222 16 (xs1 ||| xs2)))
def f161 (K : Nat) (x1 : Int32) (g : zS) : Option (Unit × zS) := if zin x1 56 then if zin (x1 + 1) 56 then zbd (f156 K (g 226 x1.toNatClampNeg) g) fun r154 g153 => if r154 = 0 then zbd (f157 K (g 226 x1.toNatClampNeg) g153) fun r157 g156 => if r157 = 0 then if ¬ (g 226 x1.toNatClampNeg) = 6 then if ¬ (g 226 x1.toNatClampNeg) = 11 then if ¬ (g 226 x1.toNatClampNeg) = 0 then if ¬ (g 226 x1.toNatClampNeg) = 15 then if ¬ (g 226 x1.toNatClampNeg) = 12 then if ¬ (g 226 x1.toNatClampNeg) = 13 then f161_128 K (g156 222 16) 4 g156 else (f161_128 K (g156 222 16) 2 g156) else (f161_128 K (g156 222 16) 1 g156) else (some ((), (zup g156 222 16 0))) else (zbd (f165 K  g156) fun _ g162 => some ((), g162)) else (some ((), (zup g156 222 15 (g 226 (x1 + 1).toNatClampNeg)))) else (zbd (f164 K x1 g156) fun _ g167 => some ((), g167)) else (zbd (f163 K ((g 226 x1.toNatClampNeg) - 7) (g 226 (x1 + 1).toNatClampNeg) g156) fun _ g171 => some ((), g171)) else (zbd (f162 K ((g 226 x1.toNatClampNeg) - 1) (g 226 (x1 + 1).toNatClampNeg) g153) fun _ g175 => some ((), g175)) else none else none
theorem F161_128 {L : Nat} {xs : Nat → Int32} {d : Nat} (K : Nat) (xs1 : Int32) (xs2 : Int32) (g : zS) (r : Unit) (g' : zS) (hE : f161_128 K xs1 xs2 g = some (r, g')) : zG2 L xs (d + 2) zm161 128 [none, none, none, none] [.int xs2, .int xs1, .ref 222] g none g' := by
  unfold f161_128 at hE
  refine y_ior k161_128 ?_
  refine y_putI k161_129 fk_10_162 sh222 rfl pi_10_16.1 pi_10_16.2 ?_
  obtain ⟨rfl, rfl⟩ := zpr hE
  exact y_vret k161_132 rfl
theorem F161 {L : Nat} {xs : Nat → Int32} (K : Nat) (x1 : Int32) (g : zS) (r : Unit) (g' : zS) (hE : f161 K x1 g = some (r, g')) (d : Nat) : zE2 L xs (d + 3) 161 [.ref 222, .int x1] g none g' := by
  refine y_ev (n := 0) (d := d + 2) (ls := [some (.ref 222), some (.int x1), none, none]) zm161_get (by decide) (Nat.le_of_ble_eq_true rfl) rfl ?_
  unfold f161 at hE
  refine y_aload_n k161_0 rfl rfl ?_
  refine y_getR k161_1 fk_10_20 sh222 rfl ?_
  refine y_iload_n k161_4 rfl ?_
  obtain ⟨hc, hE⟩ := zif_some hE
  refine y_iald k161_5 ar226 (zinN ln226 hc) ?_
  refine y_istore_n (ls2 := [some (.ref 222), some (.int x1), some (.int (g 226 x1.toNatClampNeg)), none]) k161_6 rfl (Nat.le_of_ble_eq_true rfl) rfl ?_
  refine y_aload_n k161_7 rfl rfl ?_
  refine y_getR k161_8 fk_10_20 sh222 rfl ?_
  refine y_iload_n k161_11 rfl ?_
  refine y_iconst (v := 1) k161_12 oi_1 ?_
  refine y_iadd k161_13 ?_
  obtain ⟨hc, hE⟩ := zif_some hE
  refine y_iald k161_14 ar226 (zinN ln226 hc) ?_
  refine y_istore_n (ls2 := [some (.ref 222), some (.int x1), some (.int (g 226 x1.toNatClampNeg)), some (.int (g 226 (x1 + 1).toNatClampNeg))]) k161_15 rfl (Nat.le_of_ble_eq_true rfl) rfl ?_
  refine y_iload_n k161_16 rfl ?_
  obtain ⟨r154, g153, hc155, hE⟩ := zbd_some hE
  refine y_invSi (j := 156) (As := [.int (g 226 x1.toNatClampNeg)]) (rest := []) (N := zm156) (F156 K (g 226 x1.toNatClampNeg) _ r154 g153 hc155 (d + 0)) k161_17 lk_10_124 zm156_get na156 rfl (Nat.le_of_ble_eq_true rfl) ?_
  by_cases c178 : r154 = 0
  · rw [if_pos c178] at hE
    refine y_ifT (tgt := 34) k161_20 (by decide) c178 ?_
    refine y_iload_n k161_34 rfl ?_
    obtain ⟨r157, g156, hc158, hE⟩ := zbd_some hE
    refine y_invSi (j := 157) (As := [.int (g 226 x1.toNatClampNeg)]) (rest := []) (N := zm157) (F157 K (g 226 x1.toNatClampNeg) _ r157 g156 hc158 (d + 0)) k161_35 lk_10_131 zm157_get na157 rfl (Nat.le_of_ble_eq_true rfl) ?_
    by_cases c174 : r157 = 0
    · rw [if_pos c174] at hE
      refine y_ifT (tgt := 53) k161_38 (by decide) c174 ?_
      refine y_iload_n k161_53 rfl ?_
      refine y_bipush (v := 6) k161_54 b8_6 ?_
      by_cases c170 : ¬ (g 226 x1.toNatClampNeg) = 6
      · rw [if_pos c170] at hE
        refine y_icT (tgt := 67) k161_56 (by decide) c170 ?_
        refine y_iload_n k161_67 rfl ?_
        refine y_bipush (v := 11) k161_68 b8_11 ?_
        by_cases c166 : ¬ (g 226 x1.toNatClampNeg) = 11
        · rw [if_pos c166] at hE
          refine y_icT (tgt := 81) k161_70 (by decide) c166 ?_
          refine y_iload_n k161_81 rfl ?_
          by_cases c165 : ¬ (g 226 x1.toNatClampNeg) = 0
          · rw [if_pos c165] at hE
            refine y_ifT (tgt := 92) k161_82 (by decide) c165 ?_
            refine y_aload_n k161_92 rfl rfl ?_
            refine y_iload_n k161_93 rfl ?_
            refine y_bipush (v := 15) k161_94 b8_15 ?_
            by_cases c161 : ¬ (g 226 x1.toNatClampNeg) = 15
            · rw [if_pos c161] at hE
              refine y_icT (tgt := 103) k161_96 (by decide) c161 ?_
              refine y_aload_n k161_103 rfl rfl ?_
              refine y_getI k161_104 fk_10_162 sh222 rfl ?_
              refine y_iload_n k161_107 rfl ?_
              refine y_bipush (v := 12) k161_108 b8_12 ?_
              by_cases c160 : ¬ (g 226 x1.toNatClampNeg) = 12
              · rw [if_pos c160] at hE
                refine y_icT (tgt := 117) k161_110 (by decide) c160 ?_
                refine y_iload_n k161_117 rfl ?_
                refine y_bipush (v := 13) k161_118 b8_13 ?_
                by_cases c159 : ¬ (g 226 x1.toNatClampNeg) = 13
                · rw [if_pos c159] at hE
                  refine y_icT (tgt := 127) k161_120 (by decide) c159 ?_
                  refine y_iconst (v := 4) k161_127 oi_4 ?_
                  exact y_weak (ls0 := [none, none, none, none]) ⟨rfl, rfl, rfl, rfl, trivial⟩ (F161_128 K (g156 222 16) 4 _ _ _ hE)
                · rw [if_neg c159] at hE
                  refine y_icF 127 k161_120 (by decide) c159 ?_
                  refine y_iconst (v := 2) k161_123 oi_2 ?_
                  refine y_goto (tgt := 128) k161_124 (by decide) ?_
                  exact y_weak (ls0 := [none, none, none, none]) ⟨rfl, rfl, rfl, rfl, trivial⟩ (F161_128 K (g156 222 16) 2 _ _ _ hE)
              · rw [if_neg c160] at hE
                refine y_icF 117 k161_110 (by decide) c160 ?_
                refine y_iconst (v := 1) k161_113 oi_1 ?_
                refine y_goto (tgt := 128) k161_114 (by decide) ?_
                exact y_weak (ls0 := [none, none, none, none]) ⟨rfl, rfl, rfl, rfl, trivial⟩ (F161_128 K (g156 222 16) 1 _ _ _ hE)
            · rw [if_neg c161] at hE
              refine y_icF 103 k161_96 (by decide) c161 ?_
              refine y_iconst (v := 0) k161_99 oi_0 ?_
              refine y_goto (tgt := 129) k161_100 (by decide) ?_
              refine y_putI k161_129 fk_10_162 sh222 rfl pi_10_16.1 pi_10_16.2 ?_
              obtain ⟨rfl, rfl⟩ := zpr hE
              exact y_vret k161_132 rfl
          · rw [if_neg c165] at hE
            refine y_ifF 92 k161_82 (by decide) c165 ?_
            refine y_aload_n k161_85 rfl rfl ?_
            obtain ⟨u163, g162, hc164, hE⟩ := zbd_some hE
            refine y_invVv (j := 165) (As := []) (rest := []) (N := zm165) (F165 K  _ u163 g162 hc164 (d + 1)) k161_86 lk_10_176 zm165_get na165 rfl (Nat.le_of_ble_eq_true rfl) sh222 (by decide) rfl ?_
            refine y_goto (tgt := 132) k161_89 (by decide) ?_
            obtain ⟨rfl, rfl⟩ := zpr hE
            exact y_vret k161_132 rfl
        · rw [if_neg c166] at hE
          refine y_icF 81 k161_70 (by decide) c166 ?_
          refine y_aload_n k161_73 rfl rfl ?_
          refine y_iload_n k161_74 rfl ?_
          refine y_putI k161_75 fk_10_38 sh222 rfl pi_10_15.1 pi_10_15.2 ?_
          refine y_goto (tgt := 132) k161_78 (by decide) ?_
          obtain ⟨rfl, rfl⟩ := zpr hE
          exact y_vret k161_132 rfl
      · rw [if_neg c170] at hE
        refine y_icF 67 k161_56 (by decide) c170 ?_
        refine y_aload_n k161_59 rfl rfl ?_
        refine y_iload_n k161_60 rfl ?_
        obtain ⟨u168, g167, hc169, hE⟩ := zbd_some hE
        refine y_invVv (j := 164) (As := [.int x1]) (rest := []) (N := zm164) (F164 K x1 _ u168 g167 hc169 (d + 1)) k161_61 lk_10_172 zm164_get na164 rfl (Nat.le_of_ble_eq_true rfl) sh222 (by decide) rfl ?_
        refine y_goto (tgt := 132) k161_64 (by decide) ?_
        obtain ⟨rfl, rfl⟩ := zpr hE
        exact y_vret k161_132 rfl
    · rw [if_neg c174] at hE
      refine y_ifF 53 k161_38 (by decide) c174 ?_
      refine y_aload_n k161_41 rfl rfl ?_
      refine y_iload_n k161_42 rfl ?_
      refine y_bipush (v := 7) k161_43 b8_7 ?_
      refine y_isub k161_45 ?_
      refine y_iload_n k161_46 rfl ?_
      obtain ⟨u172, g171, hc173, hE⟩ := zbd_some hE
      refine y_invVv (j := 163) (As := [.int ((g 226 x1.toNatClampNeg) - 7), .int (g 226 (x1 + 1).toNatClampNeg)]) (rest := []) (N := zm163) (F163 K ((g 226 x1.toNatClampNeg) - 7) (g 226 (x1 + 1).toNatClampNeg) _ u172 g171 hc173 (d + 1)) k161_47 lk_10_169 zm163_get na163 rfl (Nat.le_of_ble_eq_true rfl) sh222 (by decide) rfl ?_
      refine y_goto (tgt := 132) k161_50 (by decide) ?_
      obtain ⟨rfl, rfl⟩ := zpr hE
      exact y_vret k161_132 rfl
  · rw [if_neg c178] at hE
    refine y_ifF 34 k161_20 (by decide) c178 ?_
    refine y_aload_n k161_23 rfl rfl ?_
    refine y_iload_n k161_24 rfl ?_
    refine y_iconst (v := 1) k161_25 oi_1 ?_
    refine y_isub k161_26 ?_
    refine y_iload_n k161_27 rfl ?_
    obtain ⟨u176, g175, hc177, hE⟩ := zbd_some hE
    refine y_invVv (j := 162) (As := [.int ((g 226 x1.toNatClampNeg) - 1), .int (g 226 (x1 + 1).toNatClampNeg)]) (rest := []) (N := zm162) (F162 K ((g 226 x1.toNatClampNeg) - 1) (g 226 (x1 + 1).toNatClampNeg) _ u176 g175 hc177 (d + 1)) k161_28 lk_10_165 zm162_get na162 rfl (Nat.le_of_ble_eq_true rfl) sh222 (by decide) rfl ?_
    refine y_goto (tgt := 132) k161_31 (by decide) ?_
    obtain ⟨rfl, rfl⟩ := zpr hE
    exact y_vret k161_132 rfl
-- AdjectiveCouponsModel.word
def f166_16 (K : Nat) : Nat → Int32 → Int32 → Int32 → Int32 → zS → Option (Int32 × zS)
  | 0, _, _, _, _, _ => none
  | n + 1, x1, x2, x3, x4, g => if (g 222 14) ≤ x4 then if ¬ x2 = 0 then if ¬ x2 = 1 then if ¬ x2 = 2 then if ¬ x2 = 3 then some ((-3), g) else (some (x3, g)) else if zin x1 10 then some ((g 227 x1.toNatClampNeg), g) else none else if zin x1 10 then some ((g 228 x1.toNatClampNeg), g) else none else if zin (0 : Int32) 803 then zbd (f168 K x1 (g 223 (0 : Int32).toNatClampNeg) g) fun r137 g136 => some (r137, g136) else none else if zin ((17 + (10 * x4)) + x1) 803 then (f166_16 K n) x1 x2 (x3 + (g 223 ((17 + (10 * x4)) + x1).toNatClampNeg)) (x4 + 1) g else none
def f166 (K : Nat) (x1 : Int32) (x2 : Int32) (g : zS) : Option (Int32 × zS) := zbd (f167 K x1 g) fun r142 g141 => if ¬ r142 = 0 then f166_16 K K x1 x2 0 0 g141 else (some ((-2), g141))
theorem F166_16 {L : Nat} {xs : Nat → Int32} {d : Nat} (K : Nat) : ∀ (n : Nat) (x1 : Int32) (x2 : Int32) (x3 : Int32) (x4 : Int32) (g : zS) (r : Int32) (g' : zS) (hE : f166_16 K n x1 x2 x3 x4 g = some (r, g')), zG2 L xs (d + 2) zm166 16 [some (.ref 222), some (.int x1), some (.int x2), some (.int x3), some (.int x4)] [] g (some (.int r)) g' := by
  intro n
  induction n with
  | zero => intro x1 x2 x3 x4  g r g' hE; cases hE
  | succ n ih =>
    intro x1 x2 x3 x4  g r g' hE
    rw [f166_16] at hE
    refine y_iload k166_16 rfl ?_
    refine y_aload_n k166_18 rfl rfl ?_
    refine y_getI k166_19 fk_10_155 sh222 rfl ?_
    by_cases c140 : (g 222 14) ≤ x4
    · rw [if_pos c140] at hE
      refine y_icT (tgt := 49) k166_22 (by decide) c140 ?_
      refine y_iload_n k166_49 rfl ?_
      by_cases c139 : ¬ x2 = 0
      · rw [if_pos c139] at hE
        refine y_ifT (tgt := 67) k166_50 (by decide) c139 ?_
        refine y_iload_n k166_67 rfl ?_
        refine y_iconst (v := 1) k166_68 oi_1 ?_
        by_cases c135 : ¬ x2 = 1
        · rw [if_pos c135] at hE
          refine y_icT (tgt := 81) k166_69 (by decide) c135 ?_
          refine y_iload_n k166_81 rfl ?_
          refine y_iconst (v := 2) k166_82 oi_2 ?_
          by_cases c134 : ¬ x2 = 2
          · rw [if_pos c134] at hE
            refine y_icT (tgt := 95) k166_83 (by decide) c134 ?_
            refine y_iload_n k166_95 rfl ?_
            refine y_iconst (v := 3) k166_96 oi_3 ?_
            by_cases c133 : ¬ x2 = 3
            · rw [if_pos c133] at hE
              refine y_icT (tgt := 104) k166_97 (by decide) c133 ?_
              refine y_bipush (v := (-3)) k166_104 b8_m3 ?_
              obtain ⟨rfl, rfl⟩ := zpr hE
              exact y_iret k166_106 rfl
            · rw [if_neg c133] at hE
              refine y_icF 104 k166_97 (by decide) c133 ?_
              refine y_iload_n k166_100 rfl ?_
              refine y_goto (tgt := 106) k166_101 (by decide) ?_
              obtain ⟨rfl, rfl⟩ := zpr hE
              exact y_iret k166_106 rfl
          · rw [if_neg c134] at hE
            refine y_icF 95 k166_83 (by decide) c134 ?_
            refine y_aload_n k166_86 rfl rfl ?_
            refine y_getR k166_87 fk_10_23 sh222 rfl ?_
            refine y_iload_n k166_90 rfl ?_
            obtain ⟨hc, hE⟩ := zif_some hE
            refine y_iald k166_91 ar227 (zinN ln227 hc) ?_
            refine y_goto (tgt := 106) k166_92 (by decide) ?_
            obtain ⟨rfl, rfl⟩ := zpr hE
            exact y_iret k166_106 rfl
        · rw [if_neg c135] at hE
          refine y_icF 81 k166_69 (by decide) c135 ?_
          refine y_aload_n k166_72 rfl rfl ?_
          refine y_getR k166_73 fk_10_26 sh222 rfl ?_
          refine y_iload_n k166_76 rfl ?_
          obtain ⟨hc, hE⟩ := zif_some hE
          refine y_iald k166_77 ar228 (zinN ln228 hc) ?_
          refine y_goto (tgt := 106) k166_78 (by decide) ?_
          obtain ⟨rfl, rfl⟩ := zpr hE
          exact y_iret k166_106 rfl
      · rw [if_neg c139] at hE
        refine y_ifF 67 k166_50 (by decide) c139 ?_
        refine y_aload_n k166_53 rfl rfl ?_
        refine y_iload_n k166_54 rfl ?_
        refine y_aload_n k166_55 rfl rfl ?_
        refine y_getR k166_56 fk_10_7 sh222 rfl ?_
        refine y_iconst (v := 0) k166_59 oi_0 ?_
        obtain ⟨hc, hE⟩ := zif_some hE
        refine y_iald k166_60 ar223 (zinN ln223 hc) ?_
        obtain ⟨r137, g136, hc138, hE⟩ := zbd_some hE
        refine y_invVi (j := 168) (As := [.int x1, .int (g 223 (0 : Int32).toNatClampNeg)]) (rest := []) (N := zm168) (F168 K x1 (g 223 (0 : Int32).toNatClampNeg) _ r137 g136 hc138 (d + 1)) k166_61 lk_10_197 zm168_get na168 rfl (Nat.le_of_ble_eq_true rfl) sh222 (by decide) rfl ?_
        refine y_goto (tgt := 106) k166_64 (by decide) ?_
        obtain ⟨rfl, rfl⟩ := zpr hE
        exact y_iret k166_106 rfl
    · rw [if_neg c140] at hE
      refine y_icF 49 k166_22 (by decide) c140 ?_
      refine y_iload_n k166_25 rfl ?_
      refine y_aload_n k166_26 rfl rfl ?_
      refine y_getR k166_27 fk_10_7 sh222 rfl ?_
      refine y_bipush (v := 17) k166_30 b8_17 ?_
      refine y_bipush (v := 10) k166_32 b8_10 ?_
      refine y_iload k166_34 rfl ?_
      refine y_imul k166_36 ?_
      refine y_iadd k166_37 ?_
      refine y_iload_n k166_38 rfl ?_
      refine y_iadd k166_39 ?_
      obtain ⟨hc, hE⟩ := zif_some hE
      refine y_iald k166_40 ar223 (zinN ln223 hc) ?_
      refine y_iadd k166_41 ?_
      refine y_istore_n (ls2 := [some (.ref 222), some (.int x1), some (.int x2), some (.int (x3 + (g 223 ((17 + (10 * x4)) + x1).toNatClampNeg))), some (.int x4)]) k166_42 rfl (Nat.le_of_ble_eq_true rfl) rfl ?_
      refine y_iinc (v := (x4 + 1)) (ls2 := [some (.ref 222), some (.int x1), some (.int x2), some (.int (x3 + (g 223 ((17 + (10 * x4)) + x1).toNatClampNeg))), some (.int (x4 + 1))]) k166_43 rfl rfl (by rw [oi_1]) rfl ?_
      refine y_goto (tgt := 16) k166_46 (by decide) ?_
      exact ih x1 x2 (x3 + (g 223 ((17 + (10 * x4)) + x1).toNatClampNeg)) (x4 + 1) _ _ _ hE
theorem F166 {L : Nat} {xs : Nat → Int32} (K : Nat) (x1 : Int32) (x2 : Int32) (g : zS) (r : Int32) (g' : zS) (hE : f166 K x1 x2 g = some (r, g')) (d : Nat) : zE2 L xs (d + 3) 166 [.ref 222, .int x1, .int x2] g (some (.int r)) g' := by
  refine y_ev (n := 0) (d := d + 2) (ls := [some (.ref 222), some (.int x1), some (.int x2), none, none]) zm166_get (by decide) (Nat.le_of_ble_eq_true rfl) rfl ?_
  unfold f166 at hE
  refine y_aload_n k166_0 rfl rfl ?_
  refine y_iload_n k166_1 rfl ?_
  obtain ⟨r142, g141, hc143, hE⟩ := zbd_some hE
  refine y_invVi (j := 167) (As := [.int x1]) (rest := []) (N := zm167) (F167 K x1 _ r142 g141 hc143 (d + 0)) k166_2 lk_10_225 zm167_get na167 rfl (Nat.le_of_ble_eq_true rfl) sh222 (by decide) rfl ?_
  by_cases c144 : ¬ r142 = 0
  · rw [if_pos c144] at hE
    refine y_ifT (tgt := 11) k166_5 (by decide) c144 ?_
    refine y_iconst (v := 0) k166_11 oi_0 ?_
    refine y_istore_n (ls2 := [some (.ref 222), some (.int x1), some (.int x2), some (.int 0), none]) k166_12 rfl (Nat.le_of_ble_eq_true rfl) rfl ?_
    refine y_iconst (v := 0) k166_13 oi_0 ?_
    refine y_istore (ls2 := [some (.ref 222), some (.int x1), some (.int x2), some (.int 0), some (.int 0)]) k166_14 rfl (Nat.le_of_ble_eq_true rfl) rfl ?_
    exact F166_16 K K x1 x2 0 0 _ _ _ hE
  · rw [if_neg c144] at hE
    refine y_ifF 11 k166_5 (by decide) c144 ?_
    refine y_bipush (v := (-2)) k166_8 b8_m2 ?_
    obtain ⟨rfl, rfl⟩ := zpr hE
    exact y_iret k166_10 rfl
-- AdjectiveCouponsModel.one
def f169 (K : Nat) (x1 : Int32) (x2 : Int32) (g : zS) : Option (Int32 × zS) := zbd (f170 K x1 g) fun r116 g115 => if ¬ r116 = 0 then if x2 = 0 then if zin x1 4 then some ((g115 230 x1.toNatClampNeg), g115) else none else if x2 = 1 then if zin (1 + x1) 803 then some ((g115 223 (1 + x1).toNatClampNeg), g115) else none else if x2 = 2 then if zin (5 + x1) 803 then some ((g115 223 (5 + x1).toNatClampNeg), g115) else none else if x2 = 3 then if zin (9 + x1) 803 then some ((g115 223 (9 + x1).toNatClampNeg), g115) else none else if x2 = 4 then if zin (13 + x1) 803 then some ((g115 223 (13 + x1).toNatClampNeg), g115) else none else if x2 = 5 then zbd (f171 K x1 g115) fun r125 g124 => some (r125, g124) else if x2 = 6 then if zin x1 4 then some ((g115 231 x1.toNatClampNeg), g115) else none else (some ((-3), g115)) else (some ((-2), g115))
theorem F169 {L : Nat} {xs : Nat → Int32} (K : Nat) (x1 : Int32) (x2 : Int32) (g : zS) (r : Int32) (g' : zS) (hE : f169 K x1 x2 g = some (r, g')) (d : Nat) : zE2 L xs (d + 3) 169 [.ref 222, .int x1, .int x2] g (some (.int r)) g' := by
  refine y_ev (n := 0) (d := d + 2) (ls := [some (.ref 222), some (.int x1), some (.int x2)]) zm169_get (by decide) (Nat.le_of_ble_eq_true rfl) rfl ?_
  unfold f169 at hE
  refine y_aload_n k169_0 rfl rfl ?_
  refine y_iload_n k169_1 rfl ?_
  obtain ⟨r116, g115, hc117, hE⟩ := zbd_some hE
  refine y_invVi (j := 170) (As := [.int x1]) (rest := []) (N := zm170) (F170 K x1 _ r116 g115 hc117 (d + 0)) k169_2 lk_10_228 zm170_get na170 rfl (Nat.le_of_ble_eq_true rfl) sh222 (by decide) rfl ?_
  by_cases c128 : ¬ r116 = 0
  · rw [if_pos c128] at hE
    refine y_ifT (tgt := 11) k169_5 (by decide) c128 ?_
    refine y_iload_n k169_11 rfl ?_
    by_cases c118 : x2 = 0
    · rw [if_pos c118] at hE
      refine y_tsw (tgt := 56) (off := 44) 0 k169_12 c118 (by decide) (by decide) (by decide) (by decide) ?_
      refine y_aload_n k169_56 rfl rfl ?_
      refine y_getR k169_57 fk_10_32 sh222 rfl ?_
      refine y_iload_n k169_60 rfl ?_
      obtain ⟨hc, hE⟩ := zif_some hE
      refine y_iald k169_61 ar230 (zinN ln230 hc) ?_
      obtain ⟨rfl, rfl⟩ := zpr hE
      exact y_iret k169_62 rfl
    · rw [if_neg c118] at hE
      by_cases c119 : x2 = 1
      · rw [if_pos c119] at hE
        refine y_tsw (tgt := 63) (off := 51) 1 k169_12 c119 (by decide) (by decide) (by decide) (by decide) ?_
        refine y_aload_n k169_63 rfl rfl ?_
        refine y_getR k169_64 fk_10_7 sh222 rfl ?_
        refine y_iconst (v := 1) k169_67 oi_1 ?_
        refine y_iload_n k169_68 rfl ?_
        refine y_iadd k169_69 ?_
        obtain ⟨hc, hE⟩ := zif_some hE
        refine y_iald k169_70 ar223 (zinN ln223 hc) ?_
        obtain ⟨rfl, rfl⟩ := zpr hE
        exact y_iret k169_71 rfl
      · rw [if_neg c119] at hE
        by_cases c120 : x2 = 2
        · rw [if_pos c120] at hE
          refine y_tsw (tgt := 72) (off := 60) 2 k169_12 c120 (by decide) (by decide) (by decide) (by decide) ?_
          refine y_aload_n k169_72 rfl rfl ?_
          refine y_getR k169_73 fk_10_7 sh222 rfl ?_
          refine y_iconst (v := 5) k169_76 oi_5 ?_
          refine y_iload_n k169_77 rfl ?_
          refine y_iadd k169_78 ?_
          obtain ⟨hc, hE⟩ := zif_some hE
          refine y_iald k169_79 ar223 (zinN ln223 hc) ?_
          obtain ⟨rfl, rfl⟩ := zpr hE
          exact y_iret k169_80 rfl
        · rw [if_neg c120] at hE
          by_cases c121 : x2 = 3
          · rw [if_pos c121] at hE
            refine y_tsw (tgt := 81) (off := 69) 3 k169_12 c121 (by decide) (by decide) (by decide) (by decide) ?_
            refine y_aload_n k169_81 rfl rfl ?_
            refine y_getR k169_82 fk_10_7 sh222 rfl ?_
            refine y_bipush (v := 9) k169_85 b8_9 ?_
            refine y_iload_n k169_87 rfl ?_
            refine y_iadd k169_88 ?_
            obtain ⟨hc, hE⟩ := zif_some hE
            refine y_iald k169_89 ar223 (zinN ln223 hc) ?_
            obtain ⟨rfl, rfl⟩ := zpr hE
            exact y_iret k169_90 rfl
          · rw [if_neg c121] at hE
            by_cases c122 : x2 = 4
            · rw [if_pos c122] at hE
              refine y_tsw (tgt := 91) (off := 79) 4 k169_12 c122 (by decide) (by decide) (by decide) (by decide) ?_
              refine y_aload_n k169_91 rfl rfl ?_
              refine y_getR k169_92 fk_10_7 sh222 rfl ?_
              refine y_bipush (v := 13) k169_95 b8_13 ?_
              refine y_iload_n k169_97 rfl ?_
              refine y_iadd k169_98 ?_
              obtain ⟨hc, hE⟩ := zif_some hE
              refine y_iald k169_99 ar223 (zinN ln223 hc) ?_
              obtain ⟨rfl, rfl⟩ := zpr hE
              exact y_iret k169_100 rfl
            · rw [if_neg c122] at hE
              by_cases c123 : x2 = 5
              · rw [if_pos c123] at hE
                refine y_tsw (tgt := 101) (off := 89) 5 k169_12 c123 (by decide) (by decide) (by decide) (by decide) ?_
                refine y_aload_n k169_101 rfl rfl ?_
                refine y_iload_n k169_102 rfl ?_
                obtain ⟨r125, g124, hc126, hE⟩ := zbd_some hE
                refine y_invVi (j := 171) (As := [.int x1]) (rest := []) (N := zm171) (F171 K x1 _ r125 g124 hc126 (d + 1)) k169_103 lk_10_231 zm171_get na171 rfl (Nat.le_of_ble_eq_true rfl) sh222 (by decide) rfl ?_
                obtain ⟨rfl, rfl⟩ := zpr hE
                exact y_iret k169_106 rfl
              · rw [if_neg c123] at hE
                by_cases c127 : x2 = 6
                · rw [if_pos c127] at hE
                  refine y_tsw (tgt := 107) (off := 95) 6 k169_12 c127 (by decide) (by decide) (by decide) (by decide) ?_
                  refine y_aload_n k169_107 rfl rfl ?_
                  refine y_getR k169_108 fk_10_35 sh222 rfl ?_
                  refine y_iload_n k169_111 rfl ?_
                  obtain ⟨hc, hE⟩ := zif_some hE
                  refine y_iald k169_112 ar231 (zinN ln231 hc) ?_
                  obtain ⟨rfl, rfl⟩ := zpr hE
                  exact y_iret k169_113 rfl
                · rw [if_neg c127] at hE
                  have w12 : x2.toInt < 0 ∨ 6 < x2.toInt := by
                    have e0 := lv_neT (a := 0) c118 (by decide)
                    have e1 := lv_neT (a := 1) c119 (by decide)
                    have e2 := lv_neT (a := 2) c120 (by decide)
                    have e3 := lv_neT (a := 3) c121 (by decide)
                    have e4 := lv_neT (a := 4) c122 (by decide)
                    have e5 := lv_neT (a := 5) c123 (by decide)
                    have e6 := lv_neT (a := 6) c127 (by decide)
                    omega
                  refine y_tswD (tgt := 114) k169_12 w12 (by decide) ?_
                  refine y_bipush (v := (-3)) k169_114 b8_m3 ?_
                  obtain ⟨rfl, rfl⟩ := zpr hE
                  exact y_iret k169_116 rfl
  · rw [if_neg c128] at hE
    refine y_ifF 11 k169_5 (by decide) c128 ?_
    refine y_bipush (v := (-2)) k169_8 b8_m2 ?_
    obtain ⟨rfl, rfl⟩ := zpr hE
    exact y_iret k169_10 rfl
-- AdjectiveCouponsModel.costAt
def f176_129 (K : Nat) (x3 : Int32) (xs0 : Int32) (g : zS) : Option (Int32 × zS) := if x3 = 0 then some ((xs0 + 0), g) else (some ((xs0 + 1), g))
def f176_113 (K : Nat) (x1 : Int32) (xs0 : Int32) (g : zS) : Option (Int32 × zS) := if zin x1 8 then if ¬ (g 236 x1.toNatClampNeg) = 3 then f176_129 K xs0 2 g else (f176_129 K xs0 1 g) else none
def f176_112 (K : Nat) (x1 : Int32) (g : zS) : Option (Int32 × zS) := f176_113 K x1 0 g
def f176_72 (K : Nat) (x1 : Int32) (g : zS) : Option (Int32 × zS) := zbd (f177 K (g 222 16) 2 g) fun r250 g249 => if r250 = 0 then f176_112 K x1 g249 else if x1 ≤ 1 then f176_112 K x1 g249 else (zbd (f178 K (x1 - 1) g249) fun r253 g252 => if r253 = 0 then f176_112 K x1 g252 else (zbd (f178 K (x1 - 2) g252) fun r256 g255 => if r256 = 0 then f176_112 K x1 g255 else (f176_113 K x1 1 g255)))
def f176_38 (K : Nat) (x1 : Int32) (xs0 : Int32) (g : zS) : Option (Int32 × zS) := zbd (f178 K x1 g) fun r263 g262 => if r263 = 0 then some (0, g262) else if ¬ xs0 = 0 then some (0, g262) else (zbd (f177 K (g262 222 16) 1 g262) fun r266 g265 => if r266 = 0 then f176_72 K x1 g265 else (zbd (f179 K x1 g265) fun r269 g268 => if r269 = 0 then f176_72 K x1 g268 else (some (0, g268))))
def f176_37 (K : Nat) (x1 : Int32) (g : zS) : Option (Int32 × zS) := f176_38 K x1 0 g
def f176 (K : Nat) (x1 : Int32) (g : zS) : Option (Int32 × zS) := zbd (f177 K (g 222 16) 0 g) fun r276 g275 => if r276 = 0 then f176_37 K x1 g275 else if (g275 222 29) ≤ (x1 + 1) then f176_37 K x1 g275 else if zin (x1 + 1) 8 then if ¬ (g275 236 (x1 + 1).toNatClampNeg) = 4 then f176_37 K x1 g275 else (f176_38 K x1 1 g275) else none
theorem F176_129 {L : Nat} {xs : Nat → Int32} {d : Nat} (K : Nat) (x3 : Int32) (xs0 : Int32) (g : zS) (r : Int32) (g' : zS) (hE : f176_129 K x3 xs0 g = some (r, g')) : zG2 L xs (d + 2) zm176 129 [none, none, none, some (.int x3)] [.int xs0] g (some (.int r)) g' := by
  unfold f176_129 at hE
  refine y_iload_n k176_129 rfl ?_
  by_cases c247 : x3 = 0
  · rw [if_pos c247] at hE
    refine y_ifT (tgt := 137) k176_130 (by decide) c247 ?_
    refine y_iconst (v := 0) k176_137 oi_0 ?_
    refine y_iadd k176_138 ?_
    obtain ⟨rfl, rfl⟩ := zpr hE
    exact y_iret k176_139 rfl
  · rw [if_neg c247] at hE
    refine y_ifF 137 k176_130 (by decide) c247 ?_
    refine y_iconst (v := 1) k176_133 oi_1 ?_
    refine y_goto (tgt := 138) k176_134 (by decide) ?_
    refine y_iadd k176_138 ?_
    obtain ⟨rfl, rfl⟩ := zpr hE
    exact y_iret k176_139 rfl
theorem F176_113 {L : Nat} {xs : Nat → Int32} {d : Nat} (K : Nat) (x1 : Int32) (xs0 : Int32) (g : zS) (r : Int32) (g' : zS) (hE : f176_113 K x1 xs0 g = some (r, g')) : zG2 L xs (d + 2) zm176 113 [some (.ref 222), some (.int x1), none, none] [.int xs0] g (some (.int r)) g' := by
  unfold f176_113 at hE
  refine y_istore_n (ls2 := [some (.ref 222), some (.int x1), none, some (.int xs0)]) k176_113 rfl (Nat.le_of_ble_eq_true rfl) rfl ?_
  refine y_aload_n k176_114 rfl rfl ?_
  refine y_getR k176_115 fk_10_54 sh222 rfl ?_
  refine y_iload_n k176_118 rfl ?_
  obtain ⟨hc, hE⟩ := zif_some hE
  refine y_iald k176_119 ar236 (zinN ln236 hc) ?_
  refine y_iconst (v := 3) k176_120 oi_3 ?_
  by_cases c248 : ¬ (g 236 x1.toNatClampNeg) = 3
  · rw [if_pos c248] at hE
    refine y_icT (tgt := 128) k176_121 (by decide) c248 ?_
    refine y_iconst (v := 2) k176_128 oi_2 ?_
    exact y_weak (ls0 := [none, none, none, some (.int xs0)]) ⟨rfl, rfl, rfl, rfl, trivial⟩ (F176_129 K xs0 2 _ _ _ hE)
  · rw [if_neg c248] at hE
    refine y_icF 128 k176_121 (by decide) c248 ?_
    refine y_iconst (v := 1) k176_124 oi_1 ?_
    refine y_goto (tgt := 129) k176_125 (by decide) ?_
    exact y_weak (ls0 := [none, none, none, some (.int xs0)]) ⟨rfl, rfl, rfl, rfl, trivial⟩ (F176_129 K xs0 1 _ _ _ hE)
theorem F176_112 {L : Nat} {xs : Nat → Int32} {d : Nat} (K : Nat) (x1 : Int32) (g : zS) (r : Int32) (g' : zS) (hE : f176_112 K x1 g = some (r, g')) : zG2 L xs (d + 2) zm176 112 [some (.ref 222), some (.int x1), none, none] [] g (some (.int r)) g' := by
  unfold f176_112 at hE
  refine y_iconst (v := 0) k176_112 oi_0 ?_
  exact F176_113 K x1 0 _ _ _ hE
theorem F176_72 {L : Nat} {xs : Nat → Int32} {d : Nat} (K : Nat) (x1 : Int32) (g : zS) (r : Int32) (g' : zS) (hE : f176_72 K x1 g = some (r, g')) : zG2 L xs (d + 2) zm176 72 [some (.ref 222), some (.int x1), none, none] [] g (some (.int r)) g' := by
  unfold f176_72 at hE
  refine y_aload_n k176_72 rfl rfl ?_
  refine y_getI k176_73 fk_10_162 sh222 rfl ?_
  refine y_iconst (v := 2) k176_76 oi_2 ?_
  obtain ⟨r250, g249, hc251, hE⟩ := zbd_some hE
  refine y_invSi (j := 177) (As := [.int (g 222 16), .int 2]) (rest := []) (N := zm177) (F177 K (g 222 16) 2 _ r250 g249 hc251 (d + 1)) k176_77 lk_10_203 zm177_get na177 rfl (Nat.le_of_ble_eq_true rfl) ?_
  by_cases c261 : r250 = 0
  · rw [if_pos c261] at hE
    refine y_ifT (tgt := 112) k176_80 (by decide) c261 ?_
    exact F176_112 K x1 _ _ _ hE
  · rw [if_neg c261] at hE
    refine y_ifF 112 k176_80 (by decide) c261 ?_
    refine y_iload_n k176_83 rfl ?_
    refine y_iconst (v := 1) k176_84 oi_1 ?_
    by_cases c260 : x1 ≤ 1
    · rw [if_pos c260] at hE
      refine y_icT (tgt := 112) k176_85 (by decide) c260 ?_
      exact F176_112 K x1 _ _ _ hE
    · rw [if_neg c260] at hE
      refine y_icF 112 k176_85 (by decide) c260 ?_
      refine y_aload_n k176_88 rfl rfl ?_
      refine y_iload_n k176_89 rfl ?_
      refine y_iconst (v := 1) k176_90 oi_1 ?_
      refine y_isub k176_91 ?_
      obtain ⟨r253, g252, hc254, hE⟩ := zbd_some hE
      refine y_invVi (j := 178) (As := [.int (x1 - 1)]) (rest := []) (N := zm178) (F178 K (x1 - 1) _ r253 g252 hc254 (d + 0)) k176_92 lk_10_207 zm178_get na178 rfl (Nat.le_of_ble_eq_true rfl) sh222 (by decide) rfl ?_
      by_cases c259 : r253 = 0
      · rw [if_pos c259] at hE
        refine y_ifT (tgt := 112) k176_95 (by decide) c259 ?_
        exact F176_112 K x1 _ _ _ hE
      · rw [if_neg c259] at hE
        refine y_ifF 112 k176_95 (by decide) c259 ?_
        refine y_aload_n k176_98 rfl rfl ?_
        refine y_iload_n k176_99 rfl ?_
        refine y_iconst (v := 2) k176_100 oi_2 ?_
        refine y_isub k176_101 ?_
        obtain ⟨r256, g255, hc257, hE⟩ := zbd_some hE
        refine y_invVi (j := 178) (As := [.int (x1 - 2)]) (rest := []) (N := zm178) (F178 K (x1 - 2) _ r256 g255 hc257 (d + 0)) k176_102 lk_10_207 zm178_get na178 rfl (Nat.le_of_ble_eq_true rfl) sh222 (by decide) rfl ?_
        by_cases c258 : r256 = 0
        · rw [if_pos c258] at hE
          refine y_ifT (tgt := 112) k176_105 (by decide) c258 ?_
          exact F176_112 K x1 _ _ _ hE
        · rw [if_neg c258] at hE
          refine y_ifF 112 k176_105 (by decide) c258 ?_
          refine y_iconst (v := 1) k176_108 oi_1 ?_
          refine y_goto (tgt := 113) k176_109 (by decide) ?_
          exact F176_113 K x1 1 _ _ _ hE
theorem F176_38 {L : Nat} {xs : Nat → Int32} {d : Nat} (K : Nat) (x1 : Int32) (xs0 : Int32) (g : zS) (r : Int32) (g' : zS) (hE : f176_38 K x1 xs0 g = some (r, g')) : zG2 L xs (d + 2) zm176 38 [some (.ref 222), some (.int x1), none, none] [.int xs0] g (some (.int r)) g' := by
  unfold f176_38 at hE
  refine y_istore_n (ls2 := [some (.ref 222), some (.int x1), some (.int xs0), none]) k176_38 rfl (Nat.le_of_ble_eq_true rfl) rfl ?_
  refine y_aload_n k176_39 rfl rfl ?_
  refine y_iload_n k176_40 rfl ?_
  obtain ⟨r263, g262, hc264, hE⟩ := zbd_some hE
  refine y_invVi (j := 178) (As := [.int x1]) (rest := []) (N := zm178) (F178 K x1 _ r263 g262 hc264 (d + 0)) k176_41 lk_10_207 zm178_get na178 rfl (Nat.le_of_ble_eq_true rfl) sh222 (by decide) rfl ?_
  by_cases c274 : r263 = 0
  · rw [if_pos c274] at hE
    refine y_ifT (tgt := 70) k176_44 (by decide) c274 ?_
    refine y_iconst (v := 0) k176_70 oi_0 ?_
    obtain ⟨rfl, rfl⟩ := zpr hE
    exact y_iret k176_71 rfl
  · rw [if_neg c274] at hE
    refine y_ifF 70 k176_44 (by decide) c274 ?_
    refine y_iload_n k176_47 rfl ?_
    by_cases c273 : ¬ xs0 = 0
    · rw [if_pos c273] at hE
      refine y_ifT (tgt := 70) k176_48 (by decide) c273 ?_
      refine y_iconst (v := 0) k176_70 oi_0 ?_
      obtain ⟨rfl, rfl⟩ := zpr hE
      exact y_iret k176_71 rfl
    · rw [if_neg c273] at hE
      refine y_ifF 70 k176_48 (by decide) c273 ?_
      refine y_aload_n k176_51 rfl rfl ?_
      refine y_getI k176_52 fk_10_162 sh222 rfl ?_
      refine y_iconst (v := 1) k176_55 oi_1 ?_
      obtain ⟨r266, g265, hc267, hE⟩ := zbd_some hE
      refine y_invSi (j := 177) (As := [.int (g262 222 16), .int 1]) (rest := []) (N := zm177) (F177 K (g262 222 16) 1 _ r266 g265 hc267 (d + 1)) k176_56 lk_10_203 zm177_get na177 rfl (Nat.le_of_ble_eq_true rfl) ?_
      by_cases c272 : r266 = 0
      · rw [if_pos c272] at hE
        refine y_ifT (tgt := 72) k176_59 (by decide) c272 ?_
        exact y_weak (ls0 := [some (.ref 222), some (.int x1), none, none]) ⟨rfl, rfl, rfl, rfl, trivial⟩ (F176_72 K x1 _ _ _ hE)
      · rw [if_neg c272] at hE
        refine y_ifF 72 k176_59 (by decide) c272 ?_
        refine y_aload_n k176_62 rfl rfl ?_
        refine y_iload_n k176_63 rfl ?_
        obtain ⟨r269, g268, hc270, hE⟩ := zbd_some hE
        refine y_invVi (j := 179) (As := [.int x1]) (rest := []) (N := zm179) (F179 K x1 _ r269 g268 hc270 (d + 1)) k176_64 lk_10_210 zm179_get na179 rfl (Nat.le_of_ble_eq_true rfl) sh222 (by decide) rfl ?_
        by_cases c271 : r269 = 0
        · rw [if_pos c271] at hE
          refine y_ifT (tgt := 72) k176_67 (by decide) c271 ?_
          exact y_weak (ls0 := [some (.ref 222), some (.int x1), none, none]) ⟨rfl, rfl, rfl, rfl, trivial⟩ (F176_72 K x1 _ _ _ hE)
        · rw [if_neg c271] at hE
          refine y_ifF 72 k176_67 (by decide) c271 ?_
          refine y_iconst (v := 0) k176_70 oi_0 ?_
          obtain ⟨rfl, rfl⟩ := zpr hE
          exact y_iret k176_71 rfl
theorem F176_37 {L : Nat} {xs : Nat → Int32} {d : Nat} (K : Nat) (x1 : Int32) (g : zS) (r : Int32) (g' : zS) (hE : f176_37 K x1 g = some (r, g')) : zG2 L xs (d + 2) zm176 37 [some (.ref 222), some (.int x1), none, none] [] g (some (.int r)) g' := by
  unfold f176_37 at hE
  refine y_iconst (v := 0) k176_37 oi_0 ?_
  exact F176_38 K x1 0 _ _ _ hE
theorem F176 {L : Nat} {xs : Nat → Int32} (K : Nat) (x1 : Int32) (g : zS) (r : Int32) (g' : zS) (hE : f176 K x1 g = some (r, g')) (d : Nat) : zE2 L xs (d + 3) 176 [.ref 222, .int x1] g (some (.int r)) g' := by
  refine y_ev (n := 0) (d := d + 2) (ls := [some (.ref 222), some (.int x1), none, none]) zm176_get (by decide) (Nat.le_of_ble_eq_true rfl) rfl ?_
  unfold f176 at hE
  refine y_aload_n k176_0 rfl rfl ?_
  refine y_getI k176_1 fk_10_162 sh222 rfl ?_
  refine y_iconst (v := 0) k176_4 oi_0 ?_
  obtain ⟨r276, g275, hc277, hE⟩ := zbd_some hE
  refine y_invSi (j := 177) (As := [.int (g 222 16), .int 0]) (rest := []) (N := zm177) (F177 K (g 222 16) 0 _ r276 g275 hc277 (d + 1)) k176_5 lk_10_203 zm177_get na177 rfl (Nat.le_of_ble_eq_true rfl) ?_
  by_cases c280 : r276 = 0
  · rw [if_pos c280] at hE
    refine y_ifT (tgt := 37) k176_8 (by decide) c280 ?_
    exact F176_37 K x1 _ _ _ hE
  · rw [if_neg c280] at hE
    refine y_ifF 37 k176_8 (by decide) c280 ?_
    refine y_iload_n k176_11 rfl ?_
    refine y_iconst (v := 1) k176_12 oi_1 ?_
    refine y_iadd k176_13 ?_
    refine y_aload_n k176_14 rfl rfl ?_
    refine y_getI k176_15 fk_10_194 sh222 rfl ?_
    by_cases c279 : (g275 222 29) ≤ (x1 + 1)
    · rw [if_pos c279] at hE
      refine y_icT (tgt := 37) k176_18 (by decide) c279 ?_
      exact F176_37 K x1 _ _ _ hE
    · rw [if_neg c279] at hE
      refine y_icF 37 k176_18 (by decide) c279 ?_
      refine y_aload_n k176_21 rfl rfl ?_
      refine y_getR k176_22 fk_10_54 sh222 rfl ?_
      refine y_iload_n k176_25 rfl ?_
      refine y_iconst (v := 1) k176_26 oi_1 ?_
      refine y_iadd k176_27 ?_
      obtain ⟨hc, hE⟩ := zif_some hE
      refine y_iald k176_28 ar236 (zinN ln236 hc) ?_
      refine y_iconst (v := 4) k176_29 oi_4 ?_
      by_cases c278 : ¬ (g275 236 (x1 + 1).toNatClampNeg) = 4
      · rw [if_pos c278] at hE
        refine y_icT (tgt := 37) k176_30 (by decide) c278 ?_
        exact F176_37 K x1 _ _ _ hE
      · rw [if_neg c278] at hE
        refine y_icF 37 k176_30 (by decide) c278 ?_
        refine y_iconst (v := 1) k176_33 oi_1 ?_
        refine y_goto (tgt := 38) k176_34 (by decide) ?_
        exact F176_38 K x1 1 _ _ _ hE
-- AdjectiveCouponsModel.put
def f180_16 (K : Nat) (x1 : Int32) (g : zS) : Option (Int32 × zS) := if ¬ (g 222 18) = 8 then if zin (g 222 18) 8 then some (((zup (zup g 232 (g 222 18).toNatClampNeg x1) 222 18 (((zup g 232 (g 222 18).toNatClampNeg x1) 222 18) + 1)) 222 18), (zup (zup g 232 (g 222 18).toNatClampNeg x1) 222 18 (((zup g 232 (g 222 18).toNatClampNeg x1) 222 18) + 1))) else none else (some ((-5), g))
def f180 (K : Nat) (x1 : Int32) (g : zS) : Option (Int32 × zS) := if x1 = (-1) then f180_16 K x1 g else (zbd (f167 K x1 g) fun r116 g115 => if ¬ r116 = 0 then f180_16 K x1 g115 else (some ((-2), g115)))
theorem F180_16 {L : Nat} {xs : Nat → Int32} {d : Nat} (K : Nat) (x1 : Int32) (g : zS) (r : Int32) (g' : zS) (hE : f180_16 K x1 g = some (r, g')) : zG2 L xs (d + 2) zm180 16 [some (.ref 222), some (.int x1)] [] g (some (.int r)) g' := by
  unfold f180_16 at hE
  refine y_aload_n k180_16 rfl rfl ?_
  refine y_getI k180_17 fk_10_185 sh222 rfl ?_
  refine y_bipush (v := 8) k180_20 b8_8 ?_
  by_cases c114 : ¬ (g 222 18) = 8
  · rw [if_pos c114] at hE
    refine y_icT (tgt := 28) k180_22 (by decide) c114 ?_
    refine y_aload_n k180_28 rfl rfl ?_
    refine y_getR k180_29 fk_10_42 sh222 rfl ?_
    refine y_aload_n k180_32 rfl rfl ?_
    refine y_getI k180_33 fk_10_185 sh222 rfl ?_
    refine y_iload_n k180_36 rfl ?_
    obtain ⟨hc, hE⟩ := zif_some hE
    refine y_iast k180_37 ar232 (zinN ln232 hc) ?_
    refine y_aload_n k180_38 rfl rfl ?_
    refine y_dup k180_39 rfl ?_
    refine y_getI k180_40 fk_10_185 sh222 rfl ?_
    refine y_iconst (v := 1) k180_43 oi_1 ?_
    refine y_iadd k180_44 ?_
    refine y_putI k180_45 fk_10_185 sh222 rfl pi_10_18.1 pi_10_18.2 ?_
    refine y_aload_n k180_48 rfl rfl ?_
    refine y_getI k180_49 fk_10_185 sh222 rfl ?_
    obtain ⟨rfl, rfl⟩ := zpr hE
    exact y_iret k180_52 rfl
  · rw [if_neg c114] at hE
    refine y_icF 28 k180_22 (by decide) c114 ?_
    refine y_bipush (v := (-5)) k180_25 b8_m5 ?_
    obtain ⟨rfl, rfl⟩ := zpr hE
    exact y_iret k180_27 rfl
theorem F180 {L : Nat} {xs : Nat → Int32} (K : Nat) (x1 : Int32) (g : zS) (r : Int32) (g' : zS) (hE : f180 K x1 g = some (r, g')) (d : Nat) : zE2 L xs (d + 3) 180 [.ref 222, .int x1] g (some (.int r)) g' := by
  refine y_ev (n := 0) (d := d + 2) (ls := [some (.ref 222), some (.int x1)]) zm180_get (by decide) (Nat.le_of_ble_eq_true rfl) rfl ?_
  unfold f180 at hE
  refine y_iload_n k180_0 rfl ?_
  refine y_iconst (v := (-1)) k180_1 oi_m1 ?_
  by_cases c119 : x1 = (-1)
  · rw [if_pos c119] at hE
    refine y_icT (tgt := 16) k180_2 (by decide) c119 ?_
    exact F180_16 K x1 _ _ _ hE
  · rw [if_neg c119] at hE
    refine y_icF 16 k180_2 (by decide) c119 ?_
    refine y_aload_n k180_5 rfl rfl ?_
    refine y_iload_n k180_6 rfl ?_
    obtain ⟨r116, g115, hc117, hE⟩ := zbd_some hE
    refine y_invVi (j := 167) (As := [.int x1]) (rest := []) (N := zm167) (F167 K x1 _ r116 g115 hc117 (d + 0)) k180_7 lk_10_225 zm167_get na167 rfl (Nat.le_of_ble_eq_true rfl) sh222 (by decide) rfl ?_
    by_cases c118 : ¬ r116 = 0
    · rw [if_pos c118] at hE
      refine y_ifT (tgt := 16) k180_10 (by decide) c118 ?_
      exact F180_16 K x1 _ _ _ hE
    · rw [if_neg c118] at hE
      refine y_ifF 16 k180_10 (by decide) c118 ?_
      refine y_bipush (v := (-2)) k180_13 b8_m2 ?_
      obtain ⟨rfl, rfl⟩ := zpr hE
      exact y_iret k180_15 rfl
-- AdjectiveCouponsModel.isGood
def f185_82 (K : Nat) (k45 : Int32 → Int32 → zS → Option (Int32 × zS)) (x2 : Int32) (xs0 : Int32) (g : zS) : Option (Int32 × zS) := k45 xs0 (x2 + 1) g
def f185_77 (K : Nat) (k45 : Int32 → Int32 → zS → Option (Int32 × zS)) (x2 : Int32) (g : zS) : Option (Int32 × zS) := f185_82 K k45 x2 1 g
def f185_45 (K : Nat) : Nat → Int32 → Int32 → zS → Option (Int32 × zS)
  | 0, _, _, _ => none
  | n + 1, x1, x2, g => if x1 = 0 then if x1 = 0 ∨ x1 = 1 then some (x1, g) else none else if (g 222 29) ≤ x2 then if x1 = 0 ∨ x1 = 1 then some (x1, g) else none else if zin x2 8 then if ¬ (g 236 x2.toNatClampNeg) = 0 then f185_77 K (f185_45 K n) x2 g else if zin (x2 - 1) 8 then if (g 236 (x2 - 1).toNatClampNeg) = 0 then f185_82 K (f185_45 K n) x2 0 g else (f185_77 K (f185_45 K n) x2 g) else none else none
def f185_42 (K : Nat) (xs0 : Int32) (g : zS) : Option (Int32 × zS) := f185_45 K K xs0 1 g
def f185_41 (K : Nat) (g : zS) : Option (Int32 × zS) := f185_42 K 0 g
def f185 (K : Nat) (g : zS) : Option (Int32 × zS) := if zin (0 : Int32) 803 then zbd (f175 K (g 223 (0 : Int32).toNatClampNeg) g) fun _ g153 => if (g153 222 29) ≤ 0 then f185_41 K  g153 else (zbd (f186 K  g153) fun r157 g156 => if ¬ r157 = 0 then f185_41 K  g156 else (zbd (f178 K ((g156 222 29) - 1) g156) fun r160 g159 => if ¬ r160 = 0 then f185_41 K  g159 else (f185_42 K 1 g159))) else none
theorem F185_82 {L : Nat} {xs : Nat → Int32} {d : Nat} (K : Nat) (k45 : Int32 → Int32 → zS → Option (Int32 × zS)) (hk45 : ∀ (x1 : Int32) (x2 : Int32) (g : zS) (r : Int32) (g' : zS), k45 x1 x2 g = some (r, g') → zG2 L xs (d + 2) zm185 45 [some (.ref 222), some (.int x1), some (.int x2)] [] g (some (.int r)) g') (x2 : Int32) (xs0 : Int32) (g : zS) (r : Int32) (g' : zS) (hE : f185_82 K k45 x2 xs0 g = some (r, g')) : zG2 L xs (d + 2) zm185 82 [some (.ref 222), none, some (.int x2)] [.int xs0] g (some (.int r)) g' := by
  unfold f185_82 at hE
  refine y_istore_n (ls2 := [some (.ref 222), some (.int xs0), some (.int x2)]) k185_82 rfl (Nat.le_of_ble_eq_true rfl) rfl ?_
  refine y_iinc (v := (x2 + 1)) (ls2 := [some (.ref 222), some (.int xs0), some (.int (x2 + 1))]) k185_83 rfl rfl (by rw [oi_1]) rfl ?_
  refine y_goto (tgt := 45) k185_86 (by decide) ?_
  exact hk45 xs0 (x2 + 1) _ _ _ hE
theorem F185_77 {L : Nat} {xs : Nat → Int32} {d : Nat} (K : Nat) (k45 : Int32 → Int32 → zS → Option (Int32 × zS)) (hk45 : ∀ (x1 : Int32) (x2 : Int32) (g : zS) (r : Int32) (g' : zS), k45 x1 x2 g = some (r, g') → zG2 L xs (d + 2) zm185 45 [some (.ref 222), some (.int x1), some (.int x2)] [] g (some (.int r)) g') (x2 : Int32) (g : zS) (r : Int32) (g' : zS) (hE : f185_77 K k45 x2 g = some (r, g')) : zG2 L xs (d + 2) zm185 77 [some (.ref 222), none, some (.int x2)] [] g (some (.int r)) g' := by
  unfold f185_77 at hE
  refine y_iconst (v := 1) k185_77 oi_1 ?_
  refine y_goto (tgt := 82) k185_78 (by decide) ?_
  exact F185_82 K k45 hk45 x2 1 _ _ _ hE
theorem F185_45 {L : Nat} {xs : Nat → Int32} {d : Nat} (K : Nat) : ∀ (n : Nat) (x1 : Int32) (x2 : Int32) (g : zS) (r : Int32) (g' : zS) (hE : f185_45 K n x1 x2 g = some (r, g')), zG2 L xs (d + 2) zm185 45 [some (.ref 222), some (.int x1), some (.int x2)] [] g (some (.int r)) g' := by
  intro n
  induction n with
  | zero => intro x1 x2  g r g' hE; cases hE
  | succ n ih =>
    intro x1 x2  g r g' hE
    rw [f185_45] at hE
    refine y_iload_n k185_45 rfl ?_
    by_cases c152 : x1 = 0
    · rw [if_pos c152] at hE
      refine y_ifT (tgt := 89) k185_46 (by decide) c152 ?_
      refine y_iload_n k185_89 rfl ?_
      obtain ⟨hc, hE⟩ := zif_some hE
      obtain ⟨rfl, rfl⟩ := zpr hE
      exact y_zret k185_90 rfl hc
    · rw [if_neg c152] at hE
      refine y_ifF 89 k185_46 (by decide) c152 ?_
      refine y_iload_n k185_49 rfl ?_
      refine y_aload_n k185_50 rfl rfl ?_
      refine y_getI k185_51 fk_10_194 sh222 rfl ?_
      by_cases c151 : (g 222 29) ≤ x2
      · rw [if_pos c151] at hE
        refine y_icT (tgt := 89) k185_54 (by decide) c151 ?_
        refine y_iload_n k185_89 rfl ?_
        obtain ⟨hc, hE⟩ := zif_some hE
        obtain ⟨rfl, rfl⟩ := zpr hE
        exact y_zret k185_90 rfl hc
      · rw [if_neg c151] at hE
        refine y_icF 89 k185_54 (by decide) c151 ?_
        refine y_aload_n k185_57 rfl rfl ?_
        refine y_getR k185_58 fk_10_54 sh222 rfl ?_
        refine y_iload_n k185_61 rfl ?_
        obtain ⟨hc, hE⟩ := zif_some hE
        refine y_iald k185_62 ar236 (zinN ln236 hc) ?_
        by_cases c150 : ¬ (g 236 x2.toNatClampNeg) = 0
        · rw [if_pos c150] at hE
          refine y_ifT (tgt := 77) k185_63 (by decide) c150 ?_
          exact y_weak (ls0 := [some (.ref 222), none, some (.int x2)]) ⟨rfl, rfl, rfl, trivial⟩ (F185_77 K (f185_45 K n) ih x2 _ _ _ hE)
        · rw [if_neg c150] at hE
          refine y_ifF 77 k185_63 (by decide) c150 ?_
          refine y_aload_n k185_66 rfl rfl ?_
          refine y_getR k185_67 fk_10_54 sh222 rfl ?_
          refine y_iload_n k185_70 rfl ?_
          refine y_iconst (v := 1) k185_71 oi_1 ?_
          refine y_isub k185_72 ?_
          obtain ⟨hc, hE⟩ := zif_some hE
          refine y_iald k185_73 ar236 (zinN ln236 hc) ?_
          by_cases c149 : (g 236 (x2 - 1).toNatClampNeg) = 0
          · rw [if_pos c149] at hE
            refine y_ifT (tgt := 81) k185_74 (by decide) c149 ?_
            refine y_iconst (v := 0) k185_81 oi_0 ?_
            exact y_weak (ls0 := [some (.ref 222), none, some (.int x2)]) ⟨rfl, rfl, rfl, trivial⟩ (F185_82 K (f185_45 K n) ih x2 0 _ _ _ hE)
          · rw [if_neg c149] at hE
            refine y_ifF 81 k185_74 (by decide) c149 ?_
            exact y_weak (ls0 := [some (.ref 222), none, some (.int x2)]) ⟨rfl, rfl, rfl, trivial⟩ (F185_77 K (f185_45 K n) ih x2 _ _ _ hE)
theorem F185_42 {L : Nat} {xs : Nat → Int32} {d : Nat} (K : Nat) (xs0 : Int32) (g : zS) (r : Int32) (g' : zS) (hE : f185_42 K xs0 g = some (r, g')) : zG2 L xs (d + 2) zm185 42 [some (.ref 222), none, none] [.int xs0] g (some (.int r)) g' := by
  unfold f185_42 at hE
  refine y_istore_n (ls2 := [some (.ref 222), some (.int xs0), none]) k185_42 rfl (Nat.le_of_ble_eq_true rfl) rfl ?_
  refine y_iconst (v := 1) k185_43 oi_1 ?_
  refine y_istore_n (ls2 := [some (.ref 222), some (.int xs0), some (.int 1)]) k185_44 rfl (Nat.le_of_ble_eq_true rfl) rfl ?_
  exact F185_45 K K xs0 1 _ _ _ hE
theorem F185_41 {L : Nat} {xs : Nat → Int32} {d : Nat} (K : Nat) (g : zS) (r : Int32) (g' : zS) (hE : f185_41 K  g = some (r, g')) : zG2 L xs (d + 2) zm185 41 [some (.ref 222), none, none] [] g (some (.int r)) g' := by
  unfold f185_41 at hE
  refine y_iconst (v := 0) k185_41 oi_0 ?_
  exact F185_42 K 0 _ _ _ hE
theorem F185 {L : Nat} {xs : Nat → Int32} (K : Nat) (g : zS) (r : Int32) (g' : zS) (hE : f185 K  g = some (r, g')) (d : Nat) : zE2 L xs (d + 3) 185 [.ref 222] g (some (.int r)) g' := by
  refine y_ev (n := 0) (d := d + 2) (ls := [some (.ref 222), none, none]) zm185_get (by decide) (Nat.le_of_ble_eq_true rfl) rfl ?_
  unfold f185 at hE
  refine y_aload_n k185_0 rfl rfl ?_
  refine y_aload_n k185_1 rfl rfl ?_
  refine y_getR k185_2 fk_10_7 sh222 rfl ?_
  refine y_iconst (v := 0) k185_5 oi_0 ?_
  obtain ⟨hc, hE⟩ := zif_some hE
  refine y_iald k185_6 ar223 (zinN ln223 hc) ?_
  obtain ⟨u154, g153, hc155, hE⟩ := zbd_some hE
  refine y_invVv (j := 175) (As := [.int (g 223 (0 : Int32).toNatClampNeg)]) (rest := []) (N := zm175) (F175 K (g 223 (0 : Int32).toNatClampNeg) _ u154 g153 hc155 (d + 0)) k185_7 lk_10_213 zm175_get na175 rfl (Nat.le_of_ble_eq_true rfl) sh222 (by decide) rfl ?_
  refine y_aload_n k185_10 rfl rfl ?_
  refine y_getI k185_11 fk_10_194 sh222 rfl ?_
  by_cases c164 : (g153 222 29) ≤ 0
  · rw [if_pos c164] at hE
    refine y_ifT (tgt := 41) k185_14 (by decide) c164 ?_
    exact F185_41 K  _ _ _ hE
  · rw [if_neg c164] at hE
    refine y_ifF 41 k185_14 (by decide) c164 ?_
    refine y_aload_n k185_17 rfl rfl ?_
    obtain ⟨r157, g156, hc158, hE⟩ := zbd_some hE
    refine y_invVi (j := 186) (As := []) (rest := []) (N := zm186) (F186 K  _ r157 g156 hc158 (d + 1)) k185_18 lk_10_222 zm186_get na186 rfl (Nat.le_of_ble_eq_true rfl) sh222 (by decide) rfl ?_
    by_cases c163 : ¬ r157 = 0
    · rw [if_pos c163] at hE
      refine y_ifT (tgt := 41) k185_21 (by decide) c163 ?_
      exact F185_41 K  _ _ _ hE
    · rw [if_neg c163] at hE
      refine y_ifF 41 k185_21 (by decide) c163 ?_
      refine y_aload_n k185_24 rfl rfl ?_
      refine y_aload_n k185_25 rfl rfl ?_
      refine y_getI k185_26 fk_10_194 sh222 rfl ?_
      refine y_iconst (v := 1) k185_29 oi_1 ?_
      refine y_isub k185_30 ?_
      obtain ⟨r160, g159, hc161, hE⟩ := zbd_some hE
      refine y_invVi (j := 178) (As := [.int ((g156 222 29) - 1)]) (rest := []) (N := zm178) (F178 K ((g156 222 29) - 1) _ r160 g159 hc161 (d + 0)) k185_31 lk_10_207 zm178_get na178 rfl (Nat.le_of_ble_eq_true rfl) sh222 (by decide) rfl ?_
      by_cases c162 : ¬ r160 = 0
      · rw [if_pos c162] at hE
        refine y_ifT (tgt := 41) k185_34 (by decide) c162 ?_
        exact F185_41 K  _ _ _ hE
      · rw [if_neg c162] at hE
        refine y_ifF 41 k185_34 (by decide) c162 ?_
        refine y_iconst (v := 1) k185_37 oi_1 ?_
        refine y_goto (tgt := 42) k185_38 (by decide) ?_
        exact F185_42 K 1 _ _ _ hE
-- AdjectiveCouponsModel.week
def f191_21 (K : Nat) : Nat → Int32 → zS → Option (Int32 × zS)
  | 0, _, _ => none
  | n + 1, x1, g => if (g 222 14) ≤ x1 then if zin (0 : Int32) 803 then if zin (0 : Int32) 803 then if zin (0 : Int32) 803 then some (((zup g 223 (0 : Int32).toNatClampNeg ((g 223 (0 : Int32).toNatClampNeg) + 1)) 223 (0 : Int32).toNatClampNeg), (zup g 223 (0 : Int32).toNatClampNeg ((g 223 (0 : Int32).toNatClampNeg) + 1))) else none else none else none else if zin (1 + x1) 803 then zbd (f192 K x1 (g 223 (1 + x1).toNatClampNeg) g) fun r122 g121 => if zin (1 + x1) 803 then (f191_21 K n) (x1 + 1) (zup g121 223 (1 + x1).toNatClampNeg r122) else none else none
def f191 (K : Nat) (g : zS) : Option (Int32 × zS) := if zin (0 : Int32) 803 then if ¬ (g 223 (0 : Int32).toNatClampNeg) = 999 then zbd (f188 K  g) fun _ g125 => f191_21 K K 0 g125 else (some ((-5), g)) else none
theorem F191_21 {L : Nat} {xs : Nat → Int32} {d : Nat} (K : Nat) : ∀ (n : Nat) (x1 : Int32) (g : zS) (r : Int32) (g' : zS) (hE : f191_21 K n x1 g = some (r, g')), zG2 L xs (d + 2) zm191 21 [some (.ref 222), some (.int x1)] [] g (some (.int r)) g' := by
  intro n
  induction n with
  | zero => intro x1  g r g' hE; cases hE
  | succ n ih =>
    intro x1  g r g' hE
    rw [f191_21] at hE
    refine y_iload_n k191_21 rfl ?_
    refine y_aload_n k191_22 rfl rfl ?_
    refine y_getI k191_23 fk_10_155 sh222 rfl ?_
    by_cases c124 : (g 222 14) ≤ x1
    · rw [if_pos c124] at hE
      refine y_icT (tgt := 56) k191_26 (by decide) c124 ?_
      refine y_aload_n k191_56 rfl rfl ?_
      refine y_getR k191_57 fk_10_7 sh222 rfl ?_
      refine y_iconst (v := 0) k191_60 oi_0 ?_
      refine y_dup2 k191_61 rfl rfl ?_
      obtain ⟨hc, hE⟩ := zif_some hE
      refine y_iald k191_62 ar223 (zinN ln223 hc) ?_
      refine y_iconst (v := 1) k191_63 oi_1 ?_
      refine y_iadd k191_64 ?_
      obtain ⟨hc, hE⟩ := zif_some hE
      refine y_iast k191_65 ar223 (zinN ln223 hc) ?_
      refine y_aload_n k191_66 rfl rfl ?_
      refine y_getR k191_67 fk_10_7 sh222 rfl ?_
      refine y_iconst (v := 0) k191_70 oi_0 ?_
      obtain ⟨hc, hE⟩ := zif_some hE
      refine y_iald k191_71 ar223 (zinN ln223 hc) ?_
      obtain ⟨rfl, rfl⟩ := zpr hE
      exact y_iret k191_72 rfl
    · rw [if_neg c124] at hE
      refine y_icF 56 k191_26 (by decide) c124 ?_
      refine y_aload_n k191_29 rfl rfl ?_
      refine y_getR k191_30 fk_10_7 sh222 rfl ?_
      refine y_iconst (v := 1) k191_33 oi_1 ?_
      refine y_iload_n k191_34 rfl ?_
      refine y_iadd k191_35 ?_
      refine y_aload_n k191_36 rfl rfl ?_
      refine y_iload_n k191_37 rfl ?_
      refine y_aload_n k191_38 rfl rfl ?_
      refine y_getR k191_39 fk_10_7 sh222 rfl ?_
      refine y_iconst (v := 1) k191_42 oi_1 ?_
      refine y_iload_n k191_43 rfl ?_
      refine y_iadd k191_44 ?_
      obtain ⟨hc, hE⟩ := zif_some hE
      refine y_iald k191_45 ar223 (zinN ln223 hc) ?_
      obtain ⟨r122, g121, hc123, hE⟩ := zbd_some hE
      refine y_invVi (j := 192) (As := [.int x1, .int (g 223 (1 + x1).toNatClampNeg)]) (rest := [.int (1 + x1), .ref 223]) (N := zm192) (F192 K x1 (g 223 (1 + x1).toNatClampNeg) _ r122 g121 hc123 (d + 1)) k191_46 lk_10_253 zm192_get na192 rfl (Nat.le_of_ble_eq_true rfl) sh222 (by decide) rfl ?_
      obtain ⟨hc, hE⟩ := zif_some hE
      refine y_iast k191_49 ar223 (zinN ln223 hc) ?_
      refine y_iinc (v := (x1 + 1)) (ls2 := [some (.ref 222), some (.int (x1 + 1))]) k191_50 rfl rfl (by rw [oi_1]) rfl ?_
      refine y_goto (tgt := 21) k191_53 (by decide) ?_
      exact ih (x1 + 1) _ _ _ hE
theorem F191 {L : Nat} {xs : Nat → Int32} (K : Nat) (g : zS) (r : Int32) (g' : zS) (hE : f191 K  g = some (r, g')) (d : Nat) : zE2 L xs (d + 3) 191 [.ref 222] g (some (.int r)) g' := by
  refine y_ev (n := 0) (d := d + 2) (ls := [some (.ref 222), none]) zm191_get (by decide) (Nat.le_of_ble_eq_true rfl) rfl ?_
  unfold f191 at hE
  refine y_aload_n k191_0 rfl rfl ?_
  refine y_getR k191_1 fk_10_7 sh222 rfl ?_
  refine y_iconst (v := 0) k191_4 oi_0 ?_
  obtain ⟨hc, hE⟩ := zif_some hE
  refine y_iald k191_5 ar223 (zinN ln223 hc) ?_
  refine y_sipush (v := 999) k191_6 s16_999 ?_
  by_cases c128 : ¬ (g 223 (0 : Int32).toNatClampNeg) = 999
  · rw [if_pos c128] at hE
    refine y_icT (tgt := 15) k191_9 (by decide) c128 ?_
    refine y_aload_n k191_15 rfl rfl ?_
    obtain ⟨u126, g125, hc127, hE⟩ := zbd_some hE
    refine y_invVv (j := 188) (As := []) (rest := []) (N := zm188) (F188 K  _ u126 g125 hc127 (d + 0)) k191_16 lk_10_247 zm188_get na188 rfl (Nat.le_of_ble_eq_true rfl) sh222 (by decide) rfl ?_
    refine y_iconst (v := 0) k191_19 oi_0 ?_
    refine y_istore_n (ls2 := [some (.ref 222), some (.int 0)]) k191_20 rfl (Nat.le_of_ble_eq_true rfl) rfl ?_
    exact F191_21 K K 0 _ _ _ hE
  · rw [if_neg c128] at hE
    refine y_icF 15 k191_9 (by decide) c128 ?_
    refine y_bipush (v := (-5)) k191_12 b8_m5 ?_
    obtain ⟨rfl, rfl⟩ := zpr hE
    exact y_iret k191_14 rfl
-- AdjectiveCouponsModel.areTwo
def f194 (K : Nat) (x1 : Int32) (x2 : Int32) (g : zS) : Option (Int32 × zS) := zbd (f170 K x1 g) fun r111 g110 => if r111 = 0 then some (0, g110) else (zbd (f170 K x2 g110) fun r114 g113 => if r114 = 0 then some (0, g113) else if x1 = x2 then some (0, g113) else (some (1, g113)))
theorem F194 {L : Nat} {xs : Nat → Int32} (K : Nat) (x1 : Int32) (x2 : Int32) (g : zS) (r : Int32) (g' : zS) (hE : f194 K x1 x2 g = some (r, g')) (d : Nat) : zE2 L xs (d + 3) 194 [.ref 222, .int x1, .int x2] g (some (.int r)) g' := by
  refine y_ev (n := 0) (d := d + 2) (ls := [some (.ref 222), some (.int x1), some (.int x2)]) zm194_get (by decide) (Nat.le_of_ble_eq_true rfl) rfl ?_
  unfold f194 at hE
  refine y_aload_n k194_0 rfl rfl ?_
  refine y_iload_n k194_1 rfl ?_
  obtain ⟨r111, g110, hc112, hE⟩ := zbd_some hE
  refine y_invVi (j := 170) (As := [.int x1]) (rest := []) (N := zm170) (F170 K x1 _ r111 g110 hc112 (d + 0)) k194_2 lk_10_228 zm170_get na170 rfl (Nat.le_of_ble_eq_true rfl) sh222 (by decide) rfl ?_
  by_cases c118 : r111 = 0
  · rw [if_pos c118] at hE
    refine y_ifT (tgt := 25) k194_5 (by decide) c118 ?_
    refine y_iconst (v := 0) k194_25 oi_0 ?_
    obtain ⟨rfl, rfl⟩ := zpr hE
    exact y_zret k194_26 rfl (by decide)
  · rw [if_neg c118] at hE
    refine y_ifF 25 k194_5 (by decide) c118 ?_
    refine y_aload_n k194_8 rfl rfl ?_
    refine y_iload_n k194_9 rfl ?_
    obtain ⟨r114, g113, hc115, hE⟩ := zbd_some hE
    refine y_invVi (j := 170) (As := [.int x2]) (rest := []) (N := zm170) (F170 K x2 _ r114 g113 hc115 (d + 0)) k194_10 lk_10_228 zm170_get na170 rfl (Nat.le_of_ble_eq_true rfl) sh222 (by decide) rfl ?_
    by_cases c117 : r114 = 0
    · rw [if_pos c117] at hE
      refine y_ifT (tgt := 25) k194_13 (by decide) c117 ?_
      refine y_iconst (v := 0) k194_25 oi_0 ?_
      obtain ⟨rfl, rfl⟩ := zpr hE
      exact y_zret k194_26 rfl (by decide)
    · rw [if_neg c117] at hE
      refine y_ifF 25 k194_13 (by decide) c117 ?_
      refine y_iload_n k194_16 rfl ?_
      refine y_iload_n k194_17 rfl ?_
      by_cases c116 : x1 = x2
      · rw [if_pos c116] at hE
        refine y_icT (tgt := 25) k194_18 (by decide) c116 ?_
        refine y_iconst (v := 0) k194_25 oi_0 ?_
        obtain ⟨rfl, rfl⟩ := zpr hE
        exact y_zret k194_26 rfl (by decide)
      · rw [if_neg c116] at hE
        refine y_icF 25 k194_18 (by decide) c116 ?_
        refine y_iconst (v := 1) k194_21 oi_1 ?_
        refine y_goto (tgt := 26) k194_22 (by decide) ?_
        obtain ⟨rfl, rfl⟩ := zpr hE
        exact y_zret k194_26 rfl (by decide)
-- AdjectiveCouponsModel.likeness
def f222 (K : Nat) (x1 : Int32) (g : zS) : Option (Int32 × zS) := zbd (f170 K x1 g) fun r109 g108 => if r109 = 0 then some ((-2), g108) else (zbd (f223 K x1 g108) fun r112 g111 => some (r112, g111))
theorem F222 {L : Nat} {xs : Nat → Int32} (K : Nat) (x1 : Int32) (g : zS) (r : Int32) (g' : zS) (hE : f222 K x1 g = some (r, g')) (d : Nat) : zE2 L xs (d + 3) 222 [.ref 222, .int x1] g (some (.int r)) g' := by
  refine y_ev (n := 0) (d := d + 2) (ls := [some (.ref 222), some (.int x1)]) zm222_get (by decide) (Nat.le_of_ble_eq_true rfl) rfl ?_
  unfold f222 at hE
  refine y_aload_n k222_0 rfl rfl ?_
  refine y_iload_n k222_1 rfl ?_
  obtain ⟨r109, g108, hc110, hE⟩ := zbd_some hE
  refine y_invVi (j := 170) (As := [.int x1]) (rest := []) (N := zm170) (F170 K x1 _ r109 g108 hc110 (d + 0)) k222_2 lk_10_228 zm170_get na170 rfl (Nat.le_of_ble_eq_true rfl) sh222 (by decide) rfl ?_
  by_cases c114 : r109 = 0
  · rw [if_pos c114] at hE
    refine y_ifT (tgt := 16) k222_5 (by decide) c114 ?_
    refine y_bipush (v := (-2)) k222_16 b8_m2 ?_
    obtain ⟨rfl, rfl⟩ := zpr hE
    exact y_iret k222_18 rfl
  · rw [if_neg c114] at hE
    refine y_ifF 16 k222_5 (by decide) c114 ?_
    refine y_aload_n k222_8 rfl rfl ?_
    refine y_iload_n k222_9 rfl ?_
    obtain ⟨r112, g111, hc113, hE⟩ := zbd_some hE
    refine y_invVi (j := 223) (As := [.int x1]) (rest := []) (N := zm223) (F223 K x1 _ r112 g111 hc113 (d + 0)) k222_10 lk_10_308 zm223_get na223 rfl (Nat.le_of_ble_eq_true rfl) sh222 (by decide) rfl ?_
    refine y_goto (tgt := 18) k222_13 (by decide) ?_
    obtain ⟨rfl, rfl⟩ := zpr hE
    exact y_iret k222_18 rfl
-- AdjectiveCouponsModel.author
def f224_75 (K : Nat) (k40 : Int32 → Int32 → Int32 → zS → Option (Int32 × zS)) (x1 : Int32) (x3 : Int32) (xs0 : Int32) (g : zS) : Option (Int32 × zS) := k40 x1 xs0 (x3 + 1) g
def f224_70 (K : Nat) (k40 : Int32 → Int32 → Int32 → zS → Option (Int32 × zS)) (x1 : Int32) (x3 : Int32) (g : zS) : Option (Int32 × zS) := f224_75 K k40 x1 x3 x3 g
def f224_40 (K : Nat) : Nat → Int32 → Int32 → Int32 → zS → Option (Int32 × zS)
  | 0, _, _, _, _ => none
  | n + 1, x1, x2, x3, g => if (g 222 14) ≤ x3 then some (x2, g) else if x1 ≤ 0 then some (x2, g) else if x2 = (-1) then f224_70 K (f224_40 K n) x1 x3 g else (zbd (f223 K x3 g) fun r140 g139 => zbd (f223 K x2 g139) fun r143 g142 => if r140 ≤ r143 then f224_75 K (f224_40 K n) x1 x3 x2 g142 else (f224_70 K (f224_40 K n) x1 x3 g142))
def f224_28 (K : Nat) (k4 : Int32 → Int32 → zS → Option (Int32 × zS)) (x2 : Int32) (xs0 : Int32) (xs1 : Int32) (g : zS) : Option (Int32 × zS) := k4 (xs0 + xs1) (x2 + 1) g
def f224_4 (K : Nat) : Nat → Int32 → Int32 → zS → Option (Int32 × zS)
  | 0, _, _, _ => none
  | n + 1, x1, x2, g => if (g 222 18) ≤ x2 then f224_40 K K x1 (-1) 0 g else if zin x2 8 then if ¬ (g 232 x2.toNatClampNeg) = (-1) then f224_28 K (f224_4 K n) x2 x1 1 g else (f224_28 K (f224_4 K n) x2 x1 0 g) else none
def f224 (K : Nat) (g : zS) : Option (Int32 × zS) := f224_4 K K 0 0 g
theorem F224_75 {L : Nat} {xs : Nat → Int32} {d : Nat} (K : Nat) (k40 : Int32 → Int32 → Int32 → zS → Option (Int32 × zS)) (hk40 : ∀ (x1 : Int32) (x2 : Int32) (x3 : Int32) (g : zS) (r : Int32) (g' : zS), k40 x1 x2 x3 g = some (r, g') → zG2 L xs (d + 2) zm224 40 [some (.ref 222), some (.int x1), some (.int x2), some (.int x3)] [] g (some (.int r)) g') (x1 : Int32) (x3 : Int32) (xs0 : Int32) (g : zS) (r : Int32) (g' : zS) (hE : f224_75 K k40 x1 x3 xs0 g = some (r, g')) : zG2 L xs (d + 2) zm224 75 [some (.ref 222), some (.int x1), none, some (.int x3)] [.int xs0] g (some (.int r)) g' := by
  unfold f224_75 at hE
  refine y_istore_n (ls2 := [some (.ref 222), some (.int x1), some (.int xs0), some (.int x3)]) k224_75 rfl (Nat.le_of_ble_eq_true rfl) rfl ?_
  refine y_iinc (v := (x3 + 1)) (ls2 := [some (.ref 222), some (.int x1), some (.int xs0), some (.int (x3 + 1))]) k224_76 rfl rfl (by rw [oi_1]) rfl ?_
  refine y_goto (tgt := 40) k224_79 (by decide) ?_
  exact hk40 x1 xs0 (x3 + 1) _ _ _ hE
theorem F224_70 {L : Nat} {xs : Nat → Int32} {d : Nat} (K : Nat) (k40 : Int32 → Int32 → Int32 → zS → Option (Int32 × zS)) (hk40 : ∀ (x1 : Int32) (x2 : Int32) (x3 : Int32) (g : zS) (r : Int32) (g' : zS), k40 x1 x2 x3 g = some (r, g') → zG2 L xs (d + 2) zm224 40 [some (.ref 222), some (.int x1), some (.int x2), some (.int x3)] [] g (some (.int r)) g') (x1 : Int32) (x3 : Int32) (g : zS) (r : Int32) (g' : zS) (hE : f224_70 K k40 x1 x3 g = some (r, g')) : zG2 L xs (d + 2) zm224 70 [some (.ref 222), some (.int x1), none, some (.int x3)] [] g (some (.int r)) g' := by
  unfold f224_70 at hE
  refine y_iload_n k224_70 rfl ?_
  refine y_goto (tgt := 75) k224_71 (by decide) ?_
  exact F224_75 K k40 hk40 x1 x3 x3 _ _ _ hE
theorem F224_40 {L : Nat} {xs : Nat → Int32} {d : Nat} (K : Nat) : ∀ (n : Nat) (x1 : Int32) (x2 : Int32) (x3 : Int32) (g : zS) (r : Int32) (g' : zS) (hE : f224_40 K n x1 x2 x3 g = some (r, g')), zG2 L xs (d + 2) zm224 40 [some (.ref 222), some (.int x1), some (.int x2), some (.int x3)] [] g (some (.int r)) g' := by
  intro n
  induction n with
  | zero => intro x1 x2 x3  g r g' hE; cases hE
  | succ n ih =>
    intro x1 x2 x3  g r g' hE
    rw [f224_40] at hE
    refine y_iload_n k224_40 rfl ?_
    refine y_aload_n k224_41 rfl rfl ?_
    refine y_getI k224_42 fk_10_155 sh222 rfl ?_
    by_cases c148 : (g 222 14) ≤ x3
    · rw [if_pos c148] at hE
      refine y_icT (tgt := 82) k224_45 (by decide) c148 ?_
      refine y_iload_n k224_82 rfl ?_
      obtain ⟨rfl, rfl⟩ := zpr hE
      exact y_iret k224_83 rfl
    · rw [if_neg c148] at hE
      refine y_icF 82 k224_45 (by decide) c148 ?_
      refine y_iload_n k224_48 rfl ?_
      by_cases c147 : x1 ≤ 0
      · rw [if_pos c147] at hE
        refine y_ifT (tgt := 82) k224_49 (by decide) c147 ?_
        refine y_iload_n k224_82 rfl ?_
        obtain ⟨rfl, rfl⟩ := zpr hE
        exact y_iret k224_83 rfl
      · rw [if_neg c147] at hE
        refine y_ifF 82 k224_49 (by decide) c147 ?_
        refine y_iload_n k224_52 rfl ?_
        refine y_iconst (v := (-1)) k224_53 oi_m1 ?_
        by_cases c146 : x2 = (-1)
        · rw [if_pos c146] at hE
          refine y_icT (tgt := 70) k224_54 (by decide) c146 ?_
          exact y_weak (ls0 := [some (.ref 222), some (.int x1), none, some (.int x3)]) ⟨rfl, rfl, rfl, rfl, trivial⟩ (F224_70 K (f224_40 K n) ih x1 x3 _ _ _ hE)
        · rw [if_neg c146] at hE
          refine y_icF 70 k224_54 (by decide) c146 ?_
          refine y_aload_n k224_57 rfl rfl ?_
          refine y_iload_n k224_58 rfl ?_
          obtain ⟨r140, g139, hc141, hE⟩ := zbd_some hE
          refine y_invVi (j := 223) (As := [.int x3]) (rest := []) (N := zm223) (F223 K x3 _ r140 g139 hc141 (d + 0)) k224_59 lk_10_308 zm223_get na223 rfl (Nat.le_of_ble_eq_true rfl) sh222 (by decide) rfl ?_
          refine y_aload_n k224_62 rfl rfl ?_
          refine y_iload_n k224_63 rfl ?_
          obtain ⟨r143, g142, hc144, hE⟩ := zbd_some hE
          refine y_invVi (j := 223) (As := [.int x2]) (rest := [.int r140]) (N := zm223) (F223 K x2 _ r143 g142 hc144 (d + 0)) k224_64 lk_10_308 zm223_get na223 rfl (Nat.le_of_ble_eq_true rfl) sh222 (by decide) rfl ?_
          by_cases c145 : r140 ≤ r143
          · rw [if_pos c145] at hE
            refine y_icT (tgt := 74) k224_67 (by decide) c145 ?_
            refine y_iload_n k224_74 rfl ?_
            exact y_weak (ls0 := [some (.ref 222), some (.int x1), none, some (.int x3)]) ⟨rfl, rfl, rfl, rfl, trivial⟩ (F224_75 K (f224_40 K n) ih x1 x3 x2 _ _ _ hE)
          · rw [if_neg c145] at hE
            refine y_icF 74 k224_67 (by decide) c145 ?_
            exact y_weak (ls0 := [some (.ref 222), some (.int x1), none, some (.int x3)]) ⟨rfl, rfl, rfl, rfl, trivial⟩ (F224_70 K (f224_40 K n) ih x1 x3 _ _ _ hE)
theorem F224_28 {L : Nat} {xs : Nat → Int32} {d : Nat} (K : Nat) (k4 : Int32 → Int32 → zS → Option (Int32 × zS)) (hk4 : ∀ (x1 : Int32) (x2 : Int32) (g : zS) (r : Int32) (g' : zS), k4 x1 x2 g = some (r, g') → zG2 L xs (d + 2) zm224 4 [some (.ref 222), some (.int x1), some (.int x2), none] [] g (some (.int r)) g') (x2 : Int32) (xs0 : Int32) (xs1 : Int32) (g : zS) (r : Int32) (g' : zS) (hE : f224_28 K k4 x2 xs0 xs1 g = some (r, g')) : zG2 L xs (d + 2) zm224 28 [some (.ref 222), none, some (.int x2), none] [.int xs1, .int xs0] g (some (.int r)) g' := by
  unfold f224_28 at hE
  refine y_iadd k224_28 ?_
  refine y_istore_n (ls2 := [some (.ref 222), some (.int (xs0 + xs1)), some (.int x2), none]) k224_29 rfl (Nat.le_of_ble_eq_true rfl) rfl ?_
  refine y_iinc (v := (x2 + 1)) (ls2 := [some (.ref 222), some (.int (xs0 + xs1)), some (.int (x2 + 1)), none]) k224_30 rfl rfl (by rw [oi_1]) rfl ?_
  refine y_goto (tgt := 4) k224_33 (by decide) ?_
  exact hk4 (xs0 + xs1) (x2 + 1) _ _ _ hE
theorem F224_4 {L : Nat} {xs : Nat → Int32} {d : Nat} (K : Nat) : ∀ (n : Nat) (x1 : Int32) (x2 : Int32) (g : zS) (r : Int32) (g' : zS) (hE : f224_4 K n x1 x2 g = some (r, g')), zG2 L xs (d + 2) zm224 4 [some (.ref 222), some (.int x1), some (.int x2), none] [] g (some (.int r)) g' := by
  intro n
  induction n with
  | zero => intro x1 x2  g r g' hE; cases hE
  | succ n ih =>
    intro x1 x2  g r g' hE
    rw [f224_4] at hE
    refine y_iload_n k224_4 rfl ?_
    refine y_aload_n k224_5 rfl rfl ?_
    refine y_getI k224_6 fk_10_185 sh222 rfl ?_
    by_cases c150 : (g 222 18) ≤ x2
    · rw [if_pos c150] at hE
      refine y_icT (tgt := 36) k224_9 (by decide) c150 ?_
      refine y_iconst (v := (-1)) k224_36 oi_m1 ?_
      refine y_istore_n (ls2 := [some (.ref 222), some (.int x1), some (.int (-1)), none]) k224_37 rfl (Nat.le_of_ble_eq_true rfl) rfl ?_
      refine y_iconst (v := 0) k224_38 oi_0 ?_
      refine y_istore_n (ls2 := [some (.ref 222), some (.int x1), some (.int (-1)), some (.int 0)]) k224_39 rfl (Nat.le_of_ble_eq_true rfl) rfl ?_
      exact F224_40 K K x1 (-1) 0 _ _ _ hE
    · rw [if_neg c150] at hE
      refine y_icF 36 k224_9 (by decide) c150 ?_
      refine y_iload_n k224_12 rfl ?_
      refine y_aload_n k224_13 rfl rfl ?_
      refine y_getR k224_14 fk_10_42 sh222 rfl ?_
      refine y_iload_n k224_17 rfl ?_
      obtain ⟨hc, hE⟩ := zif_some hE
      refine y_iald k224_18 ar232 (zinN ln232 hc) ?_
      refine y_iconst (v := (-1)) k224_19 oi_m1 ?_
      by_cases c149 : ¬ (g 232 x2.toNatClampNeg) = (-1)
      · rw [if_pos c149] at hE
        refine y_icT (tgt := 27) k224_20 (by decide) c149 ?_
        refine y_iconst (v := 1) k224_27 oi_1 ?_
        exact y_weak (ls0 := [some (.ref 222), none, some (.int x2), none]) ⟨rfl, rfl, rfl, rfl, trivial⟩ (F224_28 K (f224_4 K n) ih x2 x1 1 _ _ _ hE)
      · rw [if_neg c149] at hE
        refine y_icF 27 k224_20 (by decide) c149 ?_
        refine y_iconst (v := 0) k224_23 oi_0 ?_
        refine y_goto (tgt := 28) k224_24 (by decide) ?_
        exact y_weak (ls0 := [some (.ref 222), none, some (.int x2), none]) ⟨rfl, rfl, rfl, rfl, trivial⟩ (F224_28 K (f224_4 K n) ih x2 x1 0 _ _ _ hE)
theorem F224 {L : Nat} {xs : Nat → Int32} (K : Nat) (g : zS) (r : Int32) (g' : zS) (hE : f224 K  g = some (r, g')) (d : Nat) : zE2 L xs (d + 3) 224 [.ref 222] g (some (.int r)) g' := by
  refine y_ev (n := 0) (d := d + 2) (ls := [some (.ref 222), none, none, none]) zm224_get (by decide) (Nat.le_of_ble_eq_true rfl) rfl ?_
  unfold f224 at hE
  refine y_iconst (v := 0) k224_0 oi_0 ?_
  refine y_istore_n (ls2 := [some (.ref 222), some (.int 0), none, none]) k224_1 rfl (Nat.le_of_ble_eq_true rfl) rfl ?_
  refine y_iconst (v := 0) k224_2 oi_0 ?_
  refine y_istore_n (ls2 := [some (.ref 222), some (.int 0), some (.int 0), none]) k224_3 rfl (Nat.le_of_ble_eq_true rfl) rfl ?_
  exact F224_4 K K 0 0 _ _ _ hE
-- AdjectiveCouponsModel.net
def f226 (K : Nat) (x1 : Int32) (g : zS) : Option (Int32 × zS) := zbd (f170 K x1 g) fun r109 g108 => if r109 = 0 then some ((-2), g108) else (zbd (f227 K x1 g108) fun r112 g111 => some ((9999 + r112), g111))
theorem F226 {L : Nat} {xs : Nat → Int32} (K : Nat) (x1 : Int32) (g : zS) (r : Int32) (g' : zS) (hE : f226 K x1 g = some (r, g')) (d : Nat) : zE2 L xs (d + 3) 226 [.ref 222, .int x1] g (some (.int r)) g' := by
  refine y_ev (n := 0) (d := d + 2) (ls := [some (.ref 222), some (.int x1)]) zm226_get (by decide) (Nat.le_of_ble_eq_true rfl) rfl ?_
  unfold f226 at hE
  refine y_aload_n k226_0 rfl rfl ?_
  refine y_iload_n k226_1 rfl ?_
  obtain ⟨r109, g108, hc110, hE⟩ := zbd_some hE
  refine y_invVi (j := 170) (As := [.int x1]) (rest := []) (N := zm170) (F170 K x1 _ r109 g108 hc110 (d + 0)) k226_2 lk_10_228 zm170_get na170 rfl (Nat.le_of_ble_eq_true rfl) sh222 (by decide) rfl ?_
  by_cases c114 : r109 = 0
  · rw [if_pos c114] at hE
    refine y_ifT (tgt := 20) k226_5 (by decide) c114 ?_
    refine y_bipush (v := (-2)) k226_20 b8_m2 ?_
    obtain ⟨rfl, rfl⟩ := zpr hE
    exact y_iret k226_22 rfl
  · rw [if_neg c114] at hE
    refine y_ifF 20 k226_5 (by decide) c114 ?_
    refine y_sipush (v := 9999) k226_8 s16_9999 ?_
    refine y_aload_n k226_11 rfl rfl ?_
    refine y_iload_n k226_12 rfl ?_
    obtain ⟨r112, g111, hc113, hE⟩ := zbd_some hE
    refine y_invVi (j := 227) (As := [.int x1]) (rest := [.int 9999]) (N := zm227) (F227 K x1 _ r112 g111 hc113 (d + 1)) k226_13 lk_10_313 zm227_get na227 rfl (Nat.le_of_ble_eq_true rfl) sh222 (by decide) rfl ?_
    refine y_iadd k226_16 ?_
    refine y_goto (tgt := 22) k226_17 (by decide) ?_
    obtain ⟨rfl, rfl⟩ := zpr hE
    exact y_iret k226_22 rfl
-- AdjectiveCouponsModel.payments
def f228_111 (K : Nat) (k2 : Int32 → zS → Option (Int32 × zS)) (k25 : Int32 → Int32 → zS → Option (Int32 × zS)) (x1 : Int32) (x2 : Int32) (xs1 : Int32) (xs2 : Int32) (g : zS) : Option (Int32 × zS) := if zin xs1 16 then k25 x1 (x2 + 1) (zup g 238 xs1.toNatClampNeg xs2) else none
def f228_82 (K : Nat) (k2 : Int32 → zS → Option (Int32 × zS)) (k25 : Int32 → Int32 → zS → Option (Int32 × zS)) (x1 : Int32) (x2 : Int32) (xs0 : Int32) (g : zS) : Option (Int32 × zS) := if zin x1 16 then if xs0 ≤ (g 238 x1.toNatClampNeg) then if zin x1 16 then f228_111 K k2 k25 x1 x2 x1 (g 238 x1.toNatClampNeg) g else none else (f228_111 K k2 k25 x1 x2 x1 xs0 g) else none
def f228_63 (K : Nat) (k2 : Int32 → zS → Option (Int32 × zS)) (k25 : Int32 → Int32 → zS → Option (Int32 × zS)) (x1 : Int32) (x2 : Int32) (xs0 : Int32) (g : zS) : Option (Int32 × zS) := if xs0 = 0 then f228_82 K k2 k25 x1 x2 (-1) g else if zin (x1 ^^^ x2) 16 then f228_82 K k2 k25 x1 x2 ((g 238 (x1 ^^^ x2).toNatClampNeg) + 1) g else none
def f228_62 (K : Nat) (k2 : Int32 → zS → Option (Int32 × zS)) (k25 : Int32 → Int32 → zS → Option (Int32 × zS)) (x1 : Int32) (x2 : Int32) (g : zS) : Option (Int32 × zS) := f228_63 K k2 k25 x1 x2 0 g
def f228_25 (K : Nat) (k2 : Int32 → zS → Option (Int32 × zS)) : Nat → Int32 → Int32 → zS → Option (Int32 × zS)
  | 0, _, _, _ => none
  | n + 1, x1, x2, g => if x1 < x2 then k2 (x1 + 1) g else if ¬ (x2 &&& (x1 ^^^ (-1))) = 0 then f228_62 K k2 (f228_25 K k2 n) x1 x2 g else (zbd (f229 K x2 g) fun r181 g180 => if ¬ r181 = 0 then f228_62 K k2 (f228_25 K k2 n) x1 x2 g180 else if zin (x1 ^^^ x2) 16 then if (g180 238 (x1 ^^^ x2).toNatClampNeg) = (-1) then f228_62 K k2 (f228_25 K k2 n) x1 x2 g180 else (f228_63 K k2 (f228_25 K k2 n) x1 x2 1 g180) else none)
def f228_22 (K : Nat) (k2 : Int32 → zS → Option (Int32 × zS)) (x1 : Int32) (xs1 : Int32) (xs2 : Int32) (g : zS) : Option (Int32 × zS) := if zin xs1 16 then f228_25 K k2 K x1 1 (zup g 238 xs1.toNatClampNeg xs2) else none
def f228_2 (K : Nat) : Nat → Int32 → zS → Option (Int32 × zS)
  | 0, _, _ => none
  | n + 1, x1, g => if 16 ≤ x1 then zbd (f210 K ((1 <<< ((g 222 14) &&& 31)) - 1) g) fun r188 g187 => if zin ((1 <<< ((g 222 14) &&& 31)) - 1) 16 then some ((r188 - (g187 238 ((1 <<< ((g 222 14) &&& 31)) - 1).toNatClampNeg)), g187) else none else if ¬ x1 = 0 then f228_22 K (f228_2 K n) x1 x1 (-1) g else (f228_22 K (f228_2 K n) x1 x1 0 g)
def f228 (K : Nat) (g : zS) : Option (Int32 × zS) := f228_2 K K 0 g
theorem F228_111 {L : Nat} {xs : Nat → Int32} {d : Nat} (K : Nat) (k2 : Int32 → zS → Option (Int32 × zS)) (hk2 : ∀ (x1 : Int32) (g : zS) (r : Int32) (g' : zS), k2 x1 g = some (r, g') → zG2 L xs (d + 2) zm228 2 [some (.ref 222), some (.int x1), none, none, none] [] g (some (.int r)) g') (k25 : Int32 → Int32 → zS → Option (Int32 × zS)) (hk25 : ∀ (x1 : Int32) (x2 : Int32) (g : zS) (r : Int32) (g' : zS), k25 x1 x2 g = some (r, g') → zG2 L xs (d + 2) zm228 25 [some (.ref 222), some (.int x1), some (.int x2), none, none] [] g (some (.int r)) g') (x1 : Int32) (x2 : Int32) (xs1 : Int32) (xs2 : Int32) (g : zS) (r : Int32) (g' : zS) (hE : f228_111 K k2 k25 x1 x2 xs1 xs2 g = some (r, g')) : zG2 L xs (d + 2) zm228 111 [some (.ref 222), some (.int x1), some (.int x2), none, none] [.int xs2, .int xs1, .ref 238] g (some (.int r)) g' := by
  unfold f228_111 at hE
  obtain ⟨hc, hE⟩ := zif_some hE
  refine y_iast k228_111 ar238 (zinN ln238 hc) ?_
  refine y_iinc (v := (x2 + 1)) (ls2 := [some (.ref 222), some (.int x1), some (.int (x2 + 1)), none, none]) k228_112 rfl rfl (by rw [oi_1]) rfl ?_
  refine y_goto (tgt := 25) k228_115 (by decide) ?_
  exact hk25 x1 (x2 + 1) _ _ _ hE
theorem F228_82 {L : Nat} {xs : Nat → Int32} {d : Nat} (K : Nat) (k2 : Int32 → zS → Option (Int32 × zS)) (hk2 : ∀ (x1 : Int32) (g : zS) (r : Int32) (g' : zS), k2 x1 g = some (r, g') → zG2 L xs (d + 2) zm228 2 [some (.ref 222), some (.int x1), none, none, none] [] g (some (.int r)) g') (k25 : Int32 → Int32 → zS → Option (Int32 × zS)) (hk25 : ∀ (x1 : Int32) (x2 : Int32) (g : zS) (r : Int32) (g' : zS), k25 x1 x2 g = some (r, g') → zG2 L xs (d + 2) zm228 25 [some (.ref 222), some (.int x1), some (.int x2), none, none] [] g (some (.int r)) g') (x1 : Int32) (x2 : Int32) (xs0 : Int32) (g : zS) (r : Int32) (g' : zS) (hE : f228_82 K k2 k25 x1 x2 xs0 g = some (r, g')) : zG2 L xs (d + 2) zm228 82 [some (.ref 222), some (.int x1), some (.int x2), none, none] [.int xs0] g (some (.int r)) g' := by
  unfold f228_82 at hE
  refine y_istore (ls2 := [some (.ref 222), some (.int x1), some (.int x2), none, some (.int xs0)]) k228_82 rfl (Nat.le_of_ble_eq_true rfl) rfl ?_
  refine y_aload_n k228_84 rfl rfl ?_
  refine y_getR k228_85 fk_10_60 sh222 rfl ?_
  refine y_iload_n k228_88 rfl ?_
  refine y_iload k228_89 rfl ?_
  refine y_aload_n k228_91 rfl rfl ?_
  refine y_getR k228_92 fk_10_60 sh222 rfl ?_
  refine y_iload_n k228_95 rfl ?_
  obtain ⟨hc, hE⟩ := zif_some hE
  refine y_iald k228_96 ar238 (zinN ln238 hc) ?_
  by_cases c178 : xs0 ≤ (g 238 x1.toNatClampNeg)
  · rw [if_pos c178] at hE
    refine y_icT (tgt := 105) k228_97 (by decide) c178 ?_
    refine y_aload_n k228_105 rfl rfl ?_
    refine y_getR k228_106 fk_10_60 sh222 rfl ?_
    refine y_iload_n k228_109 rfl ?_
    obtain ⟨hc, hE⟩ := zif_some hE
    refine y_iald k228_110 ar238 (zinN ln238 hc) ?_
    exact y_weak (ls0 := [some (.ref 222), some (.int x1), some (.int x2), none, none]) ⟨rfl, rfl, rfl, rfl, rfl, trivial⟩ (F228_111 K k2 hk2 k25 hk25 x1 x2 x1 (g 238 x1.toNatClampNeg) _ _ _ hE)
  · rw [if_neg c178] at hE
    refine y_icF 105 k228_97 (by decide) c178 ?_
    refine y_iload k228_100 rfl ?_
    refine y_goto (tgt := 111) k228_102 (by decide) ?_
    exact y_weak (ls0 := [some (.ref 222), some (.int x1), some (.int x2), none, none]) ⟨rfl, rfl, rfl, rfl, rfl, trivial⟩ (F228_111 K k2 hk2 k25 hk25 x1 x2 x1 xs0 _ _ _ hE)
theorem F228_63 {L : Nat} {xs : Nat → Int32} {d : Nat} (K : Nat) (k2 : Int32 → zS → Option (Int32 × zS)) (hk2 : ∀ (x1 : Int32) (g : zS) (r : Int32) (g' : zS), k2 x1 g = some (r, g') → zG2 L xs (d + 2) zm228 2 [some (.ref 222), some (.int x1), none, none, none] [] g (some (.int r)) g') (k25 : Int32 → Int32 → zS → Option (Int32 × zS)) (hk25 : ∀ (x1 : Int32) (x2 : Int32) (g : zS) (r : Int32) (g' : zS), k25 x1 x2 g = some (r, g') → zG2 L xs (d + 2) zm228 25 [some (.ref 222), some (.int x1), some (.int x2), none, none] [] g (some (.int r)) g') (x1 : Int32) (x2 : Int32) (xs0 : Int32) (g : zS) (r : Int32) (g' : zS) (hE : f228_63 K k2 k25 x1 x2 xs0 g = some (r, g')) : zG2 L xs (d + 2) zm228 63 [some (.ref 222), some (.int x1), some (.int x2), none, none] [.int xs0] g (some (.int r)) g' := by
  unfold f228_63 at hE
  refine y_istore_n (ls2 := [some (.ref 222), some (.int x1), some (.int x2), some (.int xs0), none]) k228_63 rfl (Nat.le_of_ble_eq_true rfl) rfl ?_
  refine y_iload_n k228_64 rfl ?_
  by_cases c179 : xs0 = 0
  · rw [if_pos c179] at hE
    refine y_ifT (tgt := 81) k228_65 (by decide) c179 ?_
    refine y_iconst (v := (-1)) k228_81 oi_m1 ?_
    exact y_weak (ls0 := [some (.ref 222), some (.int x1), some (.int x2), none, none]) ⟨rfl, rfl, rfl, rfl, rfl, trivial⟩ (F228_82 K k2 hk2 k25 hk25 x1 x2 (-1) _ _ _ hE)
  · rw [if_neg c179] at hE
    refine y_ifF 81 k228_65 (by decide) c179 ?_
    refine y_aload_n k228_68 rfl rfl ?_
    refine y_getR k228_69 fk_10_60 sh222 rfl ?_
    refine y_iload_n k228_72 rfl ?_
    refine y_iload_n k228_73 rfl ?_
    refine y_ixor k228_74 ?_
    obtain ⟨hc, hE⟩ := zif_some hE
    refine y_iald k228_75 ar238 (zinN ln238 hc) ?_
    refine y_iconst (v := 1) k228_76 oi_1 ?_
    refine y_iadd k228_77 ?_
    refine y_goto (tgt := 82) k228_78 (by decide) ?_
    exact y_weak (ls0 := [some (.ref 222), some (.int x1), some (.int x2), none, none]) ⟨rfl, rfl, rfl, rfl, rfl, trivial⟩ (F228_82 K k2 hk2 k25 hk25 x1 x2 ((g 238 (x1 ^^^ x2).toNatClampNeg) + 1) _ _ _ hE)
theorem F228_62 {L : Nat} {xs : Nat → Int32} {d : Nat} (K : Nat) (k2 : Int32 → zS → Option (Int32 × zS)) (hk2 : ∀ (x1 : Int32) (g : zS) (r : Int32) (g' : zS), k2 x1 g = some (r, g') → zG2 L xs (d + 2) zm228 2 [some (.ref 222), some (.int x1), none, none, none] [] g (some (.int r)) g') (k25 : Int32 → Int32 → zS → Option (Int32 × zS)) (hk25 : ∀ (x1 : Int32) (x2 : Int32) (g : zS) (r : Int32) (g' : zS), k25 x1 x2 g = some (r, g') → zG2 L xs (d + 2) zm228 25 [some (.ref 222), some (.int x1), some (.int x2), none, none] [] g (some (.int r)) g') (x1 : Int32) (x2 : Int32) (g : zS) (r : Int32) (g' : zS) (hE : f228_62 K k2 k25 x1 x2 g = some (r, g')) : zG2 L xs (d + 2) zm228 62 [some (.ref 222), some (.int x1), some (.int x2), none, none] [] g (some (.int r)) g' := by
  unfold f228_62 at hE
  refine y_iconst (v := 0) k228_62 oi_0 ?_
  exact F228_63 K k2 hk2 k25 hk25 x1 x2 0 _ _ _ hE
theorem F228_25 {L : Nat} {xs : Nat → Int32} {d : Nat} (K : Nat) (k2 : Int32 → zS → Option (Int32 × zS)) (hk2 : ∀ (x1 : Int32) (g : zS) (r : Int32) (g' : zS), k2 x1 g = some (r, g') → zG2 L xs (d + 2) zm228 2 [some (.ref 222), some (.int x1), none, none, none] [] g (some (.int r)) g') : ∀ (n : Nat) (x1 : Int32) (x2 : Int32) (g : zS) (r : Int32) (g' : zS) (hE : f228_25 K k2 n x1 x2 g = some (r, g')), zG2 L xs (d + 2) zm228 25 [some (.ref 222), some (.int x1), some (.int x2), none, none] [] g (some (.int r)) g' := by
  intro n
  induction n with
  | zero => intro x1 x2  g r g' hE; cases hE
  | succ n ih =>
    intro x1 x2  g r g' hE
    rw [f228_25] at hE
    refine y_iload_n k228_25 rfl ?_
    refine y_iload_n k228_26 rfl ?_
    by_cases c186 : x1 < x2
    · rw [if_pos c186] at hE
      refine y_icT (tgt := 118) k228_27 (by decide) c186 ?_
      refine y_iinc (v := (x1 + 1)) (ls2 := [some (.ref 222), some (.int (x1 + 1)), some (.int x2), none, none]) k228_118 rfl rfl (by rw [oi_1]) rfl ?_
      refine y_goto (tgt := 2) k228_121 (by decide) ?_
      exact y_weak (ls0 := [some (.ref 222), some (.int (x1 + 1)), none, none, none]) ⟨rfl, rfl, rfl, rfl, rfl, trivial⟩ (hk2 (x1 + 1) _ _ _ hE)
    · rw [if_neg c186] at hE
      refine y_icF 118 k228_27 (by decide) c186 ?_
      refine y_iload_n k228_30 rfl ?_
      refine y_iload_n k228_31 rfl ?_
      refine y_iconst (v := (-1)) k228_32 oi_m1 ?_
      refine y_ixor k228_33 ?_
      refine y_iand k228_34 ?_
      by_cases c185 : ¬ (x2 &&& (x1 ^^^ (-1))) = 0
      · rw [if_pos c185] at hE
        refine y_ifT (tgt := 62) k228_35 (by decide) c185 ?_
        exact F228_62 K k2 hk2 (f228_25 K k2 n) ih x1 x2 _ _ _ hE
      · rw [if_neg c185] at hE
        refine y_ifF 62 k228_35 (by decide) c185 ?_
        refine y_aload_n k228_38 rfl rfl ?_
        refine y_iload_n k228_39 rfl ?_
        obtain ⟨r181, g180, hc182, hE⟩ := zbd_some hE
        refine y_invVi (j := 229) (As := [.int x2]) (rest := []) (N := zm229) (F229 K x2 _ r181 g180 hc182 (d + 0)) k228_40 lk_10_316 zm229_get na229 rfl (Nat.le_of_ble_eq_true rfl) sh222 (by decide) rfl ?_
        by_cases c184 : ¬ r181 = 0
        · rw [if_pos c184] at hE
          refine y_ifT (tgt := 62) k228_43 (by decide) c184 ?_
          exact F228_62 K k2 hk2 (f228_25 K k2 n) ih x1 x2 _ _ _ hE
        · rw [if_neg c184] at hE
          refine y_ifF 62 k228_43 (by decide) c184 ?_
          refine y_aload_n k228_46 rfl rfl ?_
          refine y_getR k228_47 fk_10_60 sh222 rfl ?_
          refine y_iload_n k228_50 rfl ?_
          refine y_iload_n k228_51 rfl ?_
          refine y_ixor k228_52 ?_
          obtain ⟨hc, hE⟩ := zif_some hE
          refine y_iald k228_53 ar238 (zinN ln238 hc) ?_
          refine y_iconst (v := (-1)) k228_54 oi_m1 ?_
          by_cases c183 : (g180 238 (x1 ^^^ x2).toNatClampNeg) = (-1)
          · rw [if_pos c183] at hE
            refine y_icT (tgt := 62) k228_55 (by decide) c183 ?_
            exact F228_62 K k2 hk2 (f228_25 K k2 n) ih x1 x2 _ _ _ hE
          · rw [if_neg c183] at hE
            refine y_icF 62 k228_55 (by decide) c183 ?_
            refine y_iconst (v := 1) k228_58 oi_1 ?_
            refine y_goto (tgt := 63) k228_59 (by decide) ?_
            exact F228_63 K k2 hk2 (f228_25 K k2 n) ih x1 x2 1 _ _ _ hE
theorem F228_22 {L : Nat} {xs : Nat → Int32} {d : Nat} (K : Nat) (k2 : Int32 → zS → Option (Int32 × zS)) (hk2 : ∀ (x1 : Int32) (g : zS) (r : Int32) (g' : zS), k2 x1 g = some (r, g') → zG2 L xs (d + 2) zm228 2 [some (.ref 222), some (.int x1), none, none, none] [] g (some (.int r)) g') (x1 : Int32) (xs1 : Int32) (xs2 : Int32) (g : zS) (r : Int32) (g' : zS) (hE : f228_22 K k2 x1 xs1 xs2 g = some (r, g')) : zG2 L xs (d + 2) zm228 22 [some (.ref 222), some (.int x1), none, none, none] [.int xs2, .int xs1, .ref 238] g (some (.int r)) g' := by
  unfold f228_22 at hE
  obtain ⟨hc, hE⟩ := zif_some hE
  refine y_iast k228_22 ar238 (zinN ln238 hc) ?_
  refine y_iconst (v := 1) k228_23 oi_1 ?_
  refine y_istore_n (ls2 := [some (.ref 222), some (.int x1), some (.int 1), none, none]) k228_24 rfl (Nat.le_of_ble_eq_true rfl) rfl ?_
  exact F228_25 K k2 hk2 K x1 1 _ _ _ hE
theorem F228_2 {L : Nat} {xs : Nat → Int32} {d : Nat} (K : Nat) : ∀ (n : Nat) (x1 : Int32) (g : zS) (r : Int32) (g' : zS) (hE : f228_2 K n x1 g = some (r, g')), zG2 L xs (d + 2) zm228 2 [some (.ref 222), some (.int x1), none, none, none] [] g (some (.int r)) g' := by
  intro n
  induction n with
  | zero => intro x1  g r g' hE; cases hE
  | succ n ih =>
    intro x1  g r g' hE
    rw [f228_2] at hE
    refine y_iload_n k228_2 rfl ?_
    refine y_bipush (v := 16) k228_3 b8_16 ?_
    by_cases c191 : 16 ≤ x1
    · rw [if_pos c191] at hE
      refine y_icT (tgt := 124) k228_5 (by decide) c191 ?_
      refine y_iconst (v := 1) k228_124 oi_1 ?_
      refine y_aload_n k228_125 rfl rfl ?_
      refine y_getI k228_126 fk_10_155 sh222 rfl ?_
      refine y_ishl k228_129 ?_
      refine y_iconst (v := 1) k228_130 oi_1 ?_
      refine y_isub k228_131 ?_
      refine y_istore_n (ls2 := [some (.ref 222), some (.int ((1 <<< ((g 222 14) &&& 31)) - 1)), none, none, none]) k228_132 rfl (Nat.le_of_ble_eq_true rfl) rfl ?_
      refine y_iload_n k228_133 rfl ?_
      obtain ⟨r188, g187, hc189, hE⟩ := zbd_some hE
      refine y_invSi (j := 210) (As := [.int ((1 <<< ((g 222 14) &&& 31)) - 1)]) (rest := []) (N := zm210) (F210 K ((1 <<< ((g 222 14) &&& 31)) - 1) _ r188 g187 hc189 (d + 1)) k228_134 lk_10_290 zm210_get na210 rfl (Nat.le_of_ble_eq_true rfl) ?_
      refine y_aload_n k228_137 rfl rfl ?_
      refine y_getR k228_138 fk_10_60 sh222 rfl ?_
      refine y_iload_n k228_141 rfl ?_
      obtain ⟨hc, hE⟩ := zif_some hE
      refine y_iald k228_142 ar238 (zinN ln238 hc) ?_
      refine y_isub k228_143 ?_
      obtain ⟨rfl, rfl⟩ := zpr hE
      exact y_iret k228_144 rfl
    · rw [if_neg c191] at hE
      refine y_icF 124 k228_5 (by decide) c191 ?_
      refine y_aload_n k228_8 rfl rfl ?_
      refine y_getR k228_9 fk_10_60 sh222 rfl ?_
      refine y_iload_n k228_12 rfl ?_
      refine y_iload_n k228_13 rfl ?_
      by_cases c190 : ¬ x1 = 0
      · rw [if_pos c190] at hE
        refine y_ifT (tgt := 21) k228_14 (by decide) c190 ?_
        refine y_iconst (v := (-1)) k228_21 oi_m1 ?_
        exact F228_22 K (f228_2 K n) ih x1 x1 (-1) _ _ _ hE
      · rw [if_neg c190] at hE
        refine y_ifF 21 k228_14 (by decide) c190 ?_
        refine y_iconst (v := 0) k228_17 oi_0 ?_
        refine y_goto (tgt := 22) k228_18 (by decide) ?_
        exact F228_22 K (f228_2 K n) ih x1 x1 0 _ _ _ hE
theorem F228 {L : Nat} {xs : Nat → Int32} (K : Nat) (g : zS) (r : Int32) (g' : zS) (hE : f228 K  g = some (r, g')) (d : Nat) : zE2 L xs (d + 3) 228 [.ref 222] g (some (.int r)) g' := by
  refine y_ev (n := 0) (d := d + 2) (ls := [some (.ref 222), none, none, none, none]) zm228_get (by decide) (Nat.le_of_ble_eq_true rfl) rfl ?_
  unfold f228 at hE
  refine y_iconst (v := 0) k228_0 oi_0 ?_
  refine y_istore_n (ls2 := [some (.ref 222), some (.int 0), none, none, none]) k228_1 rfl (Nat.le_of_ble_eq_true rfl) rfl ?_
  exact F228_2 K K 0 _ _ _ hE
-- AdjectiveCouponsModel.readsRest
def f158_29 (K : Nat) (g : zS) : Option (Int32 × zS) := zbd (f159 K 0 0 20 g) fun r161 g160 => if r161 = 0 ∨ r161 = 1 then some (r161, g160) else none
def f158 (K : Nat) (x1 : Int32) (g : zS) : Option (Int32 × zS) := zbd (f156 K x1 g) fun r164 g163 => if r164 = 0 then zbd (f157 K x1 g163) fun r167 g166 => if ¬ r167 = 0 then f158_29 K  g166 else if ¬ x1 = 11 then if ¬ x1 = 6 then some (1, g166) else (zbd (f159 K 0 0 ((g166 222 25) - 1) g166) fun r170 g169 => if r170 = 0 then some (0, g169) else (zbd (f159 K 1 0 4 g169) fun r173 g172 => if r173 = 0 then some (0, g172) else (zbd (f159 K 2 0 99 g172) fun r176 g175 => if r176 = 0 then some (0, g175) else (some (1, g175))))) else (f158_29 K  g166) else (zbd (f159 K 0 0 30 g163) fun r185 g184 => if r185 = 0 ∨ r185 = 1 then some (r185, g184) else none)
theorem F158_29 {L : Nat} {xs : Nat → Int32} {d : Nat} (K : Nat) (g : zS) (r : Int32) (g' : zS) (hE : f158_29 K  g = some (r, g')) : zG2 L xs (d + 3) zm158 29 [some (.ref 222), none] [] g (some (.int r)) g' := by
  unfold f158_29 at hE
  refine y_aload_n k158_29 rfl rfl ?_
  refine y_iconst (v := 0) k158_30 oi_0 ?_
  refine y_iconst (v := 0) k158_31 oi_0 ?_
  refine y_bipush (v := 20) k158_32 b8_20 ?_
  obtain ⟨r161, g160, hc162, hE⟩ := zbd_some hE
  refine y_invVi (j := 159) (As := [.int 0, .int 0, .int 20]) (rest := []) (N := zm159) (F159 K 0 0 20 _ r161 g160 hc162 (d + 0)) k158_34 lk_10_128 zm159_get na159 rfl (Nat.le_of_ble_eq_true rfl) sh222 (by decide) rfl ?_
  obtain ⟨hc, hE⟩ := zif_some hE
  obtain ⟨rfl, rfl⟩ := zpr hE
  exact y_zret k158_37 rfl hc
theorem F158 {L : Nat} {xs : Nat → Int32} (K : Nat) (x1 : Int32) (g : zS) (r : Int32) (g' : zS) (hE : f158 K x1 g = some (r, g')) (d : Nat) : zE2 L xs (d + 4) 158 [.ref 222, .int x1] g (some (.int r)) g' := by
  refine y_ev (n := 0) (d := d + 3) (ls := [some (.ref 222), some (.int x1)]) zm158_get (by decide) (Nat.le_of_ble_eq_true rfl) rfl ?_
  unfold f158 at hE
  refine y_iload_n k158_0 rfl ?_
  obtain ⟨r164, g163, hc165, hE⟩ := zbd_some hE
  refine y_invSi (j := 156) (As := [.int x1]) (rest := []) (N := zm156) (F156 K x1 _ r164 g163 hc165 (d + 1)) k158_1 lk_10_124 zm156_get na156 rfl (Nat.le_of_ble_eq_true rfl) ?_
  by_cases c187 : r164 = 0
  · rw [if_pos c187] at hE
    refine y_ifT (tgt := 16) k158_4 (by decide) c187 ?_
    refine y_iload_n k158_16 rfl ?_
    obtain ⟨r167, g166, hc168, hE⟩ := zbd_some hE
    refine y_invSi (j := 157) (As := [.int x1]) (rest := []) (N := zm157) (F157 K x1 _ r167 g166 hc168 (d + 1)) k158_17 lk_10_131 zm157_get na157 rfl (Nat.le_of_ble_eq_true rfl) ?_
    by_cases c183 : ¬ r167 = 0
    · rw [if_pos c183] at hE
      refine y_ifT (tgt := 29) k158_20 (by decide) c183 ?_
      exact y_weak (ls0 := [some (.ref 222), none]) ⟨rfl, rfl, trivial⟩ (F158_29 K  _ _ _ hE)
    · rw [if_neg c183] at hE
      refine y_ifF 29 k158_20 (by decide) c183 ?_
      refine y_iload_n k158_23 rfl ?_
      refine y_bipush (v := 11) k158_24 b8_11 ?_
      by_cases c182 : ¬ x1 = 11
      · rw [if_pos c182] at hE
        refine y_icT (tgt := 38) k158_26 (by decide) c182 ?_
        refine y_iload_n k158_38 rfl ?_
        refine y_bipush (v := 6) k158_39 b8_6 ?_
        by_cases c181 : ¬ x1 = 6
        · rw [if_pos c181] at hE
          refine y_icT (tgt := 80) k158_41 (by decide) c181 ?_
          refine y_iconst (v := 1) k158_80 oi_1 ?_
          refine y_goto (tgt := 85) k158_81 (by decide) ?_
          obtain ⟨rfl, rfl⟩ := zpr hE
          exact y_zret k158_85 rfl (by decide)
        · rw [if_neg c181] at hE
          refine y_icF 80 k158_41 (by decide) c181 ?_
          refine y_aload_n k158_44 rfl rfl ?_
          refine y_iconst (v := 0) k158_45 oi_0 ?_
          refine y_iconst (v := 0) k158_46 oi_0 ?_
          refine y_aload_n k158_47 rfl rfl ?_
          refine y_getI k158_48 fk_10_134 sh222 rfl ?_
          refine y_iconst (v := 1) k158_51 oi_1 ?_
          refine y_isub k158_52 ?_
          obtain ⟨r170, g169, hc171, hE⟩ := zbd_some hE
          refine y_invVi (j := 159) (As := [.int 0, .int 0, .int ((g166 222 25) - 1)]) (rest := []) (N := zm159) (F159 K 0 0 ((g166 222 25) - 1) _ r170 g169 hc171 (d + 0)) k158_53 lk_10_128 zm159_get na159 rfl (Nat.le_of_ble_eq_true rfl) sh222 (by decide) rfl ?_
          by_cases c180 : r170 = 0
          · rw [if_pos c180] at hE
            refine y_ifT (tgt := 84) k158_56 (by decide) c180 ?_
            refine y_iconst (v := 0) k158_84 oi_0 ?_
            obtain ⟨rfl, rfl⟩ := zpr hE
            exact y_zret k158_85 rfl (by decide)
          · rw [if_neg c180] at hE
            refine y_ifF 84 k158_56 (by decide) c180 ?_
            refine y_aload_n k158_59 rfl rfl ?_
            refine y_iconst (v := 1) k158_60 oi_1 ?_
            refine y_iconst (v := 0) k158_61 oi_0 ?_
            refine y_iconst (v := 4) k158_62 oi_4 ?_
            obtain ⟨r173, g172, hc174, hE⟩ := zbd_some hE
            refine y_invVi (j := 159) (As := [.int 1, .int 0, .int 4]) (rest := []) (N := zm159) (F159 K 1 0 4 _ r173 g172 hc174 (d + 0)) k158_63 lk_10_128 zm159_get na159 rfl (Nat.le_of_ble_eq_true rfl) sh222 (by decide) rfl ?_
            by_cases c179 : r173 = 0
            · rw [if_pos c179] at hE
              refine y_ifT (tgt := 84) k158_66 (by decide) c179 ?_
              refine y_iconst (v := 0) k158_84 oi_0 ?_
              obtain ⟨rfl, rfl⟩ := zpr hE
              exact y_zret k158_85 rfl (by decide)
            · rw [if_neg c179] at hE
              refine y_ifF 84 k158_66 (by decide) c179 ?_
              refine y_aload_n k158_69 rfl rfl ?_
              refine y_iconst (v := 2) k158_70 oi_2 ?_
              refine y_iconst (v := 0) k158_71 oi_0 ?_
              refine y_bipush (v := 99) k158_72 b8_99 ?_
              obtain ⟨r176, g175, hc177, hE⟩ := zbd_some hE
              refine y_invVi (j := 159) (As := [.int 2, .int 0, .int 99]) (rest := []) (N := zm159) (F159 K 2 0 99 _ r176 g175 hc177 (d + 0)) k158_74 lk_10_128 zm159_get na159 rfl (Nat.le_of_ble_eq_true rfl) sh222 (by decide) rfl ?_
              by_cases c178 : r176 = 0
              · rw [if_pos c178] at hE
                refine y_ifT (tgt := 84) k158_77 (by decide) c178 ?_
                refine y_iconst (v := 0) k158_84 oi_0 ?_
                obtain ⟨rfl, rfl⟩ := zpr hE
                exact y_zret k158_85 rfl (by decide)
              · rw [if_neg c178] at hE
                refine y_ifF 84 k158_77 (by decide) c178 ?_
                refine y_iconst (v := 1) k158_80 oi_1 ?_
                refine y_goto (tgt := 85) k158_81 (by decide) ?_
                obtain ⟨rfl, rfl⟩ := zpr hE
                exact y_zret k158_85 rfl (by decide)
      · rw [if_neg c182] at hE
        refine y_icF 38 k158_26 (by decide) c182 ?_
        exact y_weak (ls0 := [some (.ref 222), none]) ⟨rfl, rfl, trivial⟩ (F158_29 K  _ _ _ hE)
  · rw [if_neg c187] at hE
    refine y_ifF 16 k158_4 (by decide) c187 ?_
    refine y_aload_n k158_7 rfl rfl ?_
    refine y_iconst (v := 0) k158_8 oi_0 ?_
    refine y_iconst (v := 0) k158_9 oi_0 ?_
    refine y_bipush (v := 30) k158_10 b8_30 ?_
    obtain ⟨r185, g184, hc186, hE⟩ := zbd_some hE
    refine y_invVi (j := 159) (As := [.int 0, .int 0, .int 30]) (rest := []) (N := zm159) (F159 K 0 0 30 _ r185 g184 hc186 (d + 0)) k158_12 lk_10_128 zm159_get na159 rfl (Nat.le_of_ble_eq_true rfl) sh222 (by decide) rfl ?_
    obtain ⟨hc, hE⟩ := zif_some hE
    obtain ⟨rfl, rfl⟩ := zpr hE
    exact y_zret k158_15 rfl hc
-- AdjectiveCouponsModel.costTo
def f174_108 (K : Nat) (k13 : Int32 → Int32 → Int32 → Int32 → zS → Option (Int32 × zS)) (x1 : Int32) (x3 : Int32) (x5 : Int32) (xs0 : Int32) (g : zS) : Option (Int32 × zS) := k13 x1 x3 xs0 (x5 + 1) g
def f174_107 (K : Nat) (k13 : Int32 → Int32 → Int32 → Int32 → zS → Option (Int32 × zS)) (x1 : Int32) (x3 : Int32) (x5 : Int32) (g : zS) : Option (Int32 × zS) := f174_108 K k13 x1 x3 x5 0 g
def f174_83 (K : Nat) (k13 : Int32 → Int32 → Int32 → Int32 → zS → Option (Int32 × zS)) (x1 : Int32) (x3 : Int32) (x4 : Int32) (x5 : Int32) (x6 : Int32) (x7 : Int32) (xs0 : Int32) (g : zS) : Option (Int32 × zS) := if x4 = 0 then f174_107 K k13 x1 (x3 + (x6 - xs0)) x5 g else if ¬ x7 = 0 then f174_107 K k13 x1 (x3 + (x6 - xs0)) x5 g else (f174_108 K k13 x1 (x3 + (x6 - xs0)) x5 1 g)
def f174_82 (K : Nat) (k13 : Int32 → Int32 → Int32 → Int32 → zS → Option (Int32 × zS)) (x1 : Int32) (x3 : Int32) (x4 : Int32) (x5 : Int32) (x6 : Int32) (x7 : Int32) (g : zS) : Option (Int32 × zS) := f174_83 K k13 x1 x3 x4 x5 x6 x7 1 g
def f174_63 (K : Nat) (k13 : Int32 → Int32 → Int32 → Int32 → zS → Option (Int32 × zS)) (x1 : Int32) (x3 : Int32) (x4 : Int32) (x5 : Int32) (x6 : Int32) (x7 : Int32) (g : zS) : Option (Int32 × zS) := f174_83 K k13 x1 x3 x4 x5 x6 x7 0 g
def f174_51 (K : Nat) (k13 : Int32 → Int32 → Int32 → Int32 → zS → Option (Int32 × zS)) (x1 : Int32) (x3 : Int32) (x4 : Int32) (x5 : Int32) (x6 : Int32) (xs0 : Int32) (g : zS) : Option (Int32 × zS) := if xs0 = 0 then f174_63 K k13 x1 x3 x4 x5 x6 xs0 g else if 2 ≤ x1 then if ¬ x1 = 3 then f174_82 K k13 x1 x3 x4 x5 x6 xs0 g else if x4 = 0 then f174_82 K k13 x1 x3 x4 x5 x6 xs0 g else (f174_83 K k13 x1 x3 x4 x5 x6 xs0 x6 g) else (f174_63 K k13 x1 x3 x4 x5 x6 xs0 g)
def f174_50 (K : Nat) (k13 : Int32 → Int32 → Int32 → Int32 → zS → Option (Int32 × zS)) (x1 : Int32) (x3 : Int32) (x4 : Int32) (x5 : Int32) (x6 : Int32) (g : zS) : Option (Int32 × zS) := f174_51 K k13 x1 x3 x4 x5 x6 0 g
def f174_13 (K : Nat) : Nat → Int32 → Int32 → Int32 → Int32 → zS → Option (Int32 × zS)
  | 0, _, _, _, _, _ => none
  | n + 1, x1, x3, x4, x5, g => if (g 222 29) ≤ x5 then some (x3, g) else (zbd (f176 K x5 g) fun r172 g171 => if zin x5 8 then if ¬ (g171 236 x5.toNatClampNeg) = 2 then f174_50 K (f174_13 K n) x1 x3 x4 x5 r172 g171 else if r172 ≤ 0 then f174_50 K (f174_13 K n) x1 x3 x4 x5 r172 g171 else (f174_51 K (f174_13 K n) x1 x3 x4 x5 r172 1 g171) else none)
def f174 (K : Nat) (x1 : Int32) (x2 : Int32) (g : zS) : Option (Int32 × zS) := zbd (f175 K x2 g) fun _ g177 => f174_13 K K x1 0 1 0 g177
theorem F174_108 {L : Nat} {xs : Nat → Int32} {d : Nat} (K : Nat) (k13 : Int32 → Int32 → Int32 → Int32 → zS → Option (Int32 × zS)) (hk13 : ∀ (x1 : Int32) (x3 : Int32) (x4 : Int32) (x5 : Int32) (g : zS) (r : Int32) (g' : zS), k13 x1 x3 x4 x5 g = some (r, g') → zG2 L xs (d + 3) zm174 13 [some (.ref 222), some (.int x1), none, some (.int x3), some (.int x4), some (.int x5), none, none, none] [] g (some (.int r)) g') (x1 : Int32) (x3 : Int32) (x5 : Int32) (xs0 : Int32) (g : zS) (r : Int32) (g' : zS) (hE : f174_108 K k13 x1 x3 x5 xs0 g = some (r, g')) : zG2 L xs (d + 3) zm174 108 [some (.ref 222), some (.int x1), none, some (.int x3), none, some (.int x5), none, none, none] [.int xs0] g (some (.int r)) g' := by
  unfold f174_108 at hE
  refine y_istore (ls2 := [some (.ref 222), some (.int x1), none, some (.int x3), some (.int xs0), some (.int x5), none, none, none]) k174_108 rfl (Nat.le_of_ble_eq_true rfl) rfl ?_
  refine y_iinc (v := (x5 + 1)) (ls2 := [some (.ref 222), some (.int x1), none, some (.int x3), some (.int xs0), some (.int (x5 + 1)), none, none, none]) k174_110 rfl rfl (by rw [oi_1]) rfl ?_
  refine y_goto (tgt := 13) k174_113 (by decide) ?_
  exact hk13 x1 x3 xs0 (x5 + 1) _ _ _ hE
theorem F174_107 {L : Nat} {xs : Nat → Int32} {d : Nat} (K : Nat) (k13 : Int32 → Int32 → Int32 → Int32 → zS → Option (Int32 × zS)) (hk13 : ∀ (x1 : Int32) (x3 : Int32) (x4 : Int32) (x5 : Int32) (g : zS) (r : Int32) (g' : zS), k13 x1 x3 x4 x5 g = some (r, g') → zG2 L xs (d + 3) zm174 13 [some (.ref 222), some (.int x1), none, some (.int x3), some (.int x4), some (.int x5), none, none, none] [] g (some (.int r)) g') (x1 : Int32) (x3 : Int32) (x5 : Int32) (g : zS) (r : Int32) (g' : zS) (hE : f174_107 K k13 x1 x3 x5 g = some (r, g')) : zG2 L xs (d + 3) zm174 107 [some (.ref 222), some (.int x1), none, some (.int x3), none, some (.int x5), none, none, none] [] g (some (.int r)) g' := by
  unfold f174_107 at hE
  refine y_iconst (v := 0) k174_107 oi_0 ?_
  exact F174_108 K k13 hk13 x1 x3 x5 0 _ _ _ hE
theorem F174_83 {L : Nat} {xs : Nat → Int32} {d : Nat} (K : Nat) (k13 : Int32 → Int32 → Int32 → Int32 → zS → Option (Int32 × zS)) (hk13 : ∀ (x1 : Int32) (x3 : Int32) (x4 : Int32) (x5 : Int32) (g : zS) (r : Int32) (g' : zS), k13 x1 x3 x4 x5 g = some (r, g') → zG2 L xs (d + 3) zm174 13 [some (.ref 222), some (.int x1), none, some (.int x3), some (.int x4), some (.int x5), none, none, none] [] g (some (.int r)) g') (x1 : Int32) (x3 : Int32) (x4 : Int32) (x5 : Int32) (x6 : Int32) (x7 : Int32) (xs0 : Int32) (g : zS) (r : Int32) (g' : zS) (hE : f174_83 K k13 x1 x3 x4 x5 x6 x7 xs0 g = some (r, g')) : zG2 L xs (d + 3) zm174 83 [some (.ref 222), some (.int x1), none, some (.int x3), some (.int x4), some (.int x5), some (.int x6), some (.int x7), none] [.int xs0] g (some (.int r)) g' := by
  unfold f174_83 at hE
  refine y_istore (ls2 := [some (.ref 222), some (.int x1), none, some (.int x3), some (.int x4), some (.int x5), some (.int x6), some (.int x7), some (.int xs0)]) k174_83 rfl (Nat.le_of_ble_eq_true rfl) rfl ?_
  refine y_iload_n k174_85 rfl ?_
  refine y_iload k174_86 rfl ?_
  refine y_iload k174_88 rfl ?_
  refine y_isub k174_90 ?_
  refine y_iadd k174_91 ?_
  refine y_istore_n (ls2 := [some (.ref 222), some (.int x1), none, some (.int (x3 + (x6 - xs0))), some (.int x4), some (.int x5), some (.int x6), some (.int x7), some (.int xs0)]) k174_92 rfl (Nat.le_of_ble_eq_true rfl) rfl ?_
  refine y_iload k174_93 rfl ?_
  by_cases c166 : x4 = 0
  · rw [if_pos c166] at hE
    refine y_ifT (tgt := 107) k174_95 (by decide) c166 ?_
    exact y_weak (ls0 := [some (.ref 222), some (.int x1), none, some (.int (x3 + (x6 - xs0))), none, some (.int x5), none, none, none]) ⟨rfl, rfl, rfl, rfl, rfl, rfl, rfl, rfl, rfl, trivial⟩ (F174_107 K k13 hk13 x1 (x3 + (x6 - xs0)) x5 _ _ _ hE)
  · rw [if_neg c166] at hE
    refine y_ifF 107 k174_95 (by decide) c166 ?_
    refine y_iload k174_98 rfl ?_
    by_cases c165 : ¬ x7 = 0
    · rw [if_pos c165] at hE
      refine y_ifT (tgt := 107) k174_100 (by decide) c165 ?_
      exact y_weak (ls0 := [some (.ref 222), some (.int x1), none, some (.int (x3 + (x6 - xs0))), none, some (.int x5), none, none, none]) ⟨rfl, rfl, rfl, rfl, rfl, rfl, rfl, rfl, rfl, trivial⟩ (F174_107 K k13 hk13 x1 (x3 + (x6 - xs0)) x5 _ _ _ hE)
    · rw [if_neg c165] at hE
      refine y_ifF 107 k174_100 (by decide) c165 ?_
      refine y_iconst (v := 1) k174_103 oi_1 ?_
      refine y_goto (tgt := 108) k174_104 (by decide) ?_
      exact y_weak (ls0 := [some (.ref 222), some (.int x1), none, some (.int (x3 + (x6 - xs0))), none, some (.int x5), none, none, none]) ⟨rfl, rfl, rfl, rfl, rfl, rfl, rfl, rfl, rfl, trivial⟩ (F174_108 K k13 hk13 x1 (x3 + (x6 - xs0)) x5 1 _ _ _ hE)
theorem F174_82 {L : Nat} {xs : Nat → Int32} {d : Nat} (K : Nat) (k13 : Int32 → Int32 → Int32 → Int32 → zS → Option (Int32 × zS)) (hk13 : ∀ (x1 : Int32) (x3 : Int32) (x4 : Int32) (x5 : Int32) (g : zS) (r : Int32) (g' : zS), k13 x1 x3 x4 x5 g = some (r, g') → zG2 L xs (d + 3) zm174 13 [some (.ref 222), some (.int x1), none, some (.int x3), some (.int x4), some (.int x5), none, none, none] [] g (some (.int r)) g') (x1 : Int32) (x3 : Int32) (x4 : Int32) (x5 : Int32) (x6 : Int32) (x7 : Int32) (g : zS) (r : Int32) (g' : zS) (hE : f174_82 K k13 x1 x3 x4 x5 x6 x7 g = some (r, g')) : zG2 L xs (d + 3) zm174 82 [some (.ref 222), some (.int x1), none, some (.int x3), some (.int x4), some (.int x5), some (.int x6), some (.int x7), none] [] g (some (.int r)) g' := by
  unfold f174_82 at hE
  refine y_iconst (v := 1) k174_82 oi_1 ?_
  exact F174_83 K k13 hk13 x1 x3 x4 x5 x6 x7 1 _ _ _ hE
theorem F174_63 {L : Nat} {xs : Nat → Int32} {d : Nat} (K : Nat) (k13 : Int32 → Int32 → Int32 → Int32 → zS → Option (Int32 × zS)) (hk13 : ∀ (x1 : Int32) (x3 : Int32) (x4 : Int32) (x5 : Int32) (g : zS) (r : Int32) (g' : zS), k13 x1 x3 x4 x5 g = some (r, g') → zG2 L xs (d + 3) zm174 13 [some (.ref 222), some (.int x1), none, some (.int x3), some (.int x4), some (.int x5), none, none, none] [] g (some (.int r)) g') (x1 : Int32) (x3 : Int32) (x4 : Int32) (x5 : Int32) (x6 : Int32) (x7 : Int32) (g : zS) (r : Int32) (g' : zS) (hE : f174_63 K k13 x1 x3 x4 x5 x6 x7 g = some (r, g')) : zG2 L xs (d + 3) zm174 63 [some (.ref 222), some (.int x1), none, some (.int x3), some (.int x4), some (.int x5), some (.int x6), some (.int x7), none] [] g (some (.int r)) g' := by
  unfold f174_63 at hE
  refine y_iconst (v := 0) k174_63 oi_0 ?_
  refine y_goto (tgt := 83) k174_64 (by decide) ?_
  exact F174_83 K k13 hk13 x1 x3 x4 x5 x6 x7 0 _ _ _ hE
theorem F174_51 {L : Nat} {xs : Nat → Int32} {d : Nat} (K : Nat) (k13 : Int32 → Int32 → Int32 → Int32 → zS → Option (Int32 × zS)) (hk13 : ∀ (x1 : Int32) (x3 : Int32) (x4 : Int32) (x5 : Int32) (g : zS) (r : Int32) (g' : zS), k13 x1 x3 x4 x5 g = some (r, g') → zG2 L xs (d + 3) zm174 13 [some (.ref 222), some (.int x1), none, some (.int x3), some (.int x4), some (.int x5), none, none, none] [] g (some (.int r)) g') (x1 : Int32) (x3 : Int32) (x4 : Int32) (x5 : Int32) (x6 : Int32) (xs0 : Int32) (g : zS) (r : Int32) (g' : zS) (hE : f174_51 K k13 x1 x3 x4 x5 x6 xs0 g = some (r, g')) : zG2 L xs (d + 3) zm174 51 [some (.ref 222), some (.int x1), none, some (.int x3), some (.int x4), some (.int x5), some (.int x6), none, none] [.int xs0] g (some (.int r)) g' := by
  unfold f174_51 at hE
  refine y_istore (ls2 := [some (.ref 222), some (.int x1), none, some (.int x3), some (.int x4), some (.int x5), some (.int x6), some (.int xs0), none]) k174_51 rfl (Nat.le_of_ble_eq_true rfl) rfl ?_
  refine y_iload k174_53 rfl ?_
  by_cases c170 : xs0 = 0
  · rw [if_pos c170] at hE
    refine y_ifT (tgt := 63) k174_55 (by decide) c170 ?_
    exact F174_63 K k13 hk13 x1 x3 x4 x5 x6 xs0 _ _ _ hE
  · rw [if_neg c170] at hE
    refine y_ifF 63 k174_55 (by decide) c170 ?_
    refine y_iload_n k174_58 rfl ?_
    refine y_iconst (v := 2) k174_59 oi_2 ?_
    by_cases c169 : 2 ≤ x1
    · rw [if_pos c169] at hE
      refine y_icT (tgt := 67) k174_60 (by decide) c169 ?_
      refine y_iload_n k174_67 rfl ?_
      refine y_iconst (v := 3) k174_68 oi_3 ?_
      by_cases c168 : ¬ x1 = 3
      · rw [if_pos c168] at hE
        refine y_icT (tgt := 82) k174_69 (by decide) c168 ?_
        exact F174_82 K k13 hk13 x1 x3 x4 x5 x6 xs0 _ _ _ hE
      · rw [if_neg c168] at hE
        refine y_icF 82 k174_69 (by decide) c168 ?_
        refine y_iload k174_72 rfl ?_
        by_cases c167 : x4 = 0
        · rw [if_pos c167] at hE
          refine y_ifT (tgt := 82) k174_74 (by decide) c167 ?_
          exact F174_82 K k13 hk13 x1 x3 x4 x5 x6 xs0 _ _ _ hE
        · rw [if_neg c167] at hE
          refine y_ifF 82 k174_74 (by decide) c167 ?_
          refine y_iload k174_77 rfl ?_
          refine y_goto (tgt := 83) k174_79 (by decide) ?_
          exact F174_83 K k13 hk13 x1 x3 x4 x5 x6 xs0 x6 _ _ _ hE
    · rw [if_neg c169] at hE
      refine y_icF 67 k174_60 (by decide) c169 ?_
      exact F174_63 K k13 hk13 x1 x3 x4 x5 x6 xs0 _ _ _ hE
theorem F174_50 {L : Nat} {xs : Nat → Int32} {d : Nat} (K : Nat) (k13 : Int32 → Int32 → Int32 → Int32 → zS → Option (Int32 × zS)) (hk13 : ∀ (x1 : Int32) (x3 : Int32) (x4 : Int32) (x5 : Int32) (g : zS) (r : Int32) (g' : zS), k13 x1 x3 x4 x5 g = some (r, g') → zG2 L xs (d + 3) zm174 13 [some (.ref 222), some (.int x1), none, some (.int x3), some (.int x4), some (.int x5), none, none, none] [] g (some (.int r)) g') (x1 : Int32) (x3 : Int32) (x4 : Int32) (x5 : Int32) (x6 : Int32) (g : zS) (r : Int32) (g' : zS) (hE : f174_50 K k13 x1 x3 x4 x5 x6 g = some (r, g')) : zG2 L xs (d + 3) zm174 50 [some (.ref 222), some (.int x1), none, some (.int x3), some (.int x4), some (.int x5), some (.int x6), none, none] [] g (some (.int r)) g' := by
  unfold f174_50 at hE
  refine y_iconst (v := 0) k174_50 oi_0 ?_
  exact F174_51 K k13 hk13 x1 x3 x4 x5 x6 0 _ _ _ hE
theorem F174_13 {L : Nat} {xs : Nat → Int32} {d : Nat} (K : Nat) : ∀ (n : Nat) (x1 : Int32) (x3 : Int32) (x4 : Int32) (x5 : Int32) (g : zS) (r : Int32) (g' : zS) (hE : f174_13 K n x1 x3 x4 x5 g = some (r, g')), zG2 L xs (d + 3) zm174 13 [some (.ref 222), some (.int x1), none, some (.int x3), some (.int x4), some (.int x5), none, none, none] [] g (some (.int r)) g' := by
  intro n
  induction n with
  | zero => intro x1 x3 x4 x5  g r g' hE; cases hE
  | succ n ih =>
    intro x1 x3 x4 x5  g r g' hE
    rw [f174_13] at hE
    refine y_iload k174_13 rfl ?_
    refine y_aload_n k174_15 rfl rfl ?_
    refine y_getI k174_16 fk_10_194 sh222 rfl ?_
    by_cases c176 : (g 222 29) ≤ x5
    · rw [if_pos c176] at hE
      refine y_icT (tgt := 116) k174_19 (by decide) c176 ?_
      refine y_iload_n k174_116 rfl ?_
      obtain ⟨rfl, rfl⟩ := zpr hE
      exact y_iret k174_117 rfl
    · rw [if_neg c176] at hE
      refine y_icF 116 k174_19 (by decide) c176 ?_
      refine y_aload_n k174_22 rfl rfl ?_
      refine y_iload k174_23 rfl ?_
      obtain ⟨r172, g171, hc173, hE⟩ := zbd_some hE
      refine y_invVi (j := 176) (As := [.int x5]) (rest := []) (N := zm176) (F176 K x5 _ r172 g171 hc173 (d + 0)) k174_25 lk_10_216 zm176_get na176 rfl (Nat.le_of_ble_eq_true rfl) sh222 (by decide) rfl ?_
      refine y_istore (ls2 := [some (.ref 222), some (.int x1), none, some (.int x3), some (.int x4), some (.int x5), some (.int r172), none, none]) k174_28 rfl (Nat.le_of_ble_eq_true rfl) rfl ?_
      refine y_aload_n k174_30 rfl rfl ?_
      refine y_getR k174_31 fk_10_54 sh222 rfl ?_
      refine y_iload k174_34 rfl ?_
      obtain ⟨hc, hE⟩ := zif_some hE
      refine y_iald k174_36 ar236 (zinN ln236 hc) ?_
      refine y_iconst (v := 2) k174_37 oi_2 ?_
      by_cases c175 : ¬ (g171 236 x5.toNatClampNeg) = 2
      · rw [if_pos c175] at hE
        refine y_icT (tgt := 50) k174_38 (by decide) c175 ?_
        exact F174_50 K (f174_13 K n) ih x1 x3 x4 x5 r172 _ _ _ hE
      · rw [if_neg c175] at hE
        refine y_icF 50 k174_38 (by decide) c175 ?_
        refine y_iload k174_41 rfl ?_
        by_cases c174 : r172 ≤ 0
        · rw [if_pos c174] at hE
          refine y_ifT (tgt := 50) k174_43 (by decide) c174 ?_
          exact F174_50 K (f174_13 K n) ih x1 x3 x4 x5 r172 _ _ _ hE
        · rw [if_neg c174] at hE
          refine y_ifF 50 k174_43 (by decide) c174 ?_
          refine y_iconst (v := 1) k174_46 oi_1 ?_
          refine y_goto (tgt := 51) k174_47 (by decide) ?_
          exact F174_51 K (f174_13 K n) ih x1 x3 x4 x5 r172 1 _ _ _ hE
theorem F174 {L : Nat} {xs : Nat → Int32} (K : Nat) (x1 : Int32) (x2 : Int32) (g : zS) (r : Int32) (g' : zS) (hE : f174 K x1 x2 g = some (r, g')) (d : Nat) : zE2 L xs (d + 4) 174 [.ref 222, .int x1, .int x2] g (some (.int r)) g' := by
  refine y_ev (n := 0) (d := d + 3) (ls := [some (.ref 222), some (.int x1), some (.int x2), none, none, none, none, none, none]) zm174_get (by decide) (Nat.le_of_ble_eq_true rfl) rfl ?_
  unfold f174 at hE
  refine y_aload_n k174_0 rfl rfl ?_
  refine y_iload_n k174_1 rfl ?_
  obtain ⟨u178, g177, hc179, hE⟩ := zbd_some hE
  refine y_invVv (j := 175) (As := [.int x2]) (rest := []) (N := zm175) (F175 K x2 _ u178 g177 hc179 (d + 1)) k174_2 lk_10_213 zm175_get na175 rfl (Nat.le_of_ble_eq_true rfl) sh222 (by decide) rfl ?_
  refine y_iconst (v := 0) k174_5 oi_0 ?_
  refine y_istore_n (ls2 := [some (.ref 222), some (.int x1), some (.int x2), some (.int 0), none, none, none, none, none]) k174_6 rfl (Nat.le_of_ble_eq_true rfl) rfl ?_
  refine y_iconst (v := 1) k174_7 oi_1 ?_
  refine y_istore (ls2 := [some (.ref 222), some (.int x1), some (.int x2), some (.int 0), some (.int 1), none, none, none, none]) k174_8 rfl (Nat.le_of_ble_eq_true rfl) rfl ?_
  refine y_iconst (v := 0) k174_10 oi_0 ?_
  refine y_istore (ls2 := [some (.ref 222), some (.int x1), some (.int x2), some (.int 0), some (.int 1), some (.int 0), none, none, none]) k174_11 rfl (Nat.le_of_ble_eq_true rfl) rfl ?_
  exact y_weak (ls0 := [some (.ref 222), some (.int x1), none, some (.int 0), some (.int 1), some (.int 0), none, none, none]) ⟨rfl, rfl, rfl, rfl, rfl, rfl, rfl, rfl, rfl, trivial⟩ (F174_13 K K x1 0 1 0 _ _ _ hE)
-- AdjectiveCouponsModel.good
def f184 (K : Nat) (g : zS) : Option (Int32 × zS) := zbd (f173 K  g) fun _ g108 => zbd (f185 K  g108) fun r112 g111 => if r112 = 0 then some (0, g111) else (some (1, g111))
theorem F184 {L : Nat} {xs : Nat → Int32} (K : Nat) (g : zS) (r : Int32) (g' : zS) (hE : f184 K  g = some (r, g')) (d : Nat) : zE2 L xs (d + 4) 184 [.ref 222] g (some (.int r)) g' := by
  refine y_ev (n := 0) (d := d + 3) (ls := [some (.ref 222)]) zm184_get (by decide) (Nat.le_of_ble_eq_true rfl) rfl ?_
  unfold f184 at hE
  refine y_aload_n k184_0 rfl rfl ?_
  obtain ⟨u109, g108, hc110, hE⟩ := zbd_some hE
  refine y_invVv (j := 173) (As := []) (rest := []) (N := zm173) (F173 K  _ u109 g108 hc110 (d + 2)) k184_1 lk_10_236 zm173_get na173 rfl (Nat.le_of_ble_eq_true rfl) sh222 (by decide) rfl ?_
  refine y_aload_n k184_4 rfl rfl ?_
  obtain ⟨r112, g111, hc113, hE⟩ := zbd_some hE
  refine y_invVi (j := 185) (As := []) (rest := []) (N := zm185) (F185 K  _ r112 g111 hc113 (d + 0)) k184_5 lk_10_241 zm185_get na185 rfl (Nat.le_of_ble_eq_true rfl) sh222 (by decide) rfl ?_
  by_cases c114 : r112 = 0
  · rw [if_pos c114] at hE
    refine y_ifT (tgt := 15) k184_8 (by decide) c114 ?_
    refine y_iconst (v := 0) k184_15 oi_0 ?_
    obtain ⟨rfl, rfl⟩ := zpr hE
    exact y_iret k184_16 rfl
  · rw [if_neg c114] at hE
    refine y_ifF 15 k184_8 (by decide) c114 ?_
    refine y_iconst (v := 1) k184_11 oi_1 ?_
    refine y_goto (tgt := 16) k184_12 (by decide) ?_
    obtain ⟨rfl, rfl⟩ := zpr hE
    exact y_iret k184_16 rfl
-- AdjectiveCouponsModel.trade
def f193 (K : Nat) (x1 : Int32) (x2 : Int32) (x3 : Int32) (x4 : Int32) (g : zS) : Option (Int32 × zS) := zbd (f194 K x1 x2 g) fun r120 g119 => if ¬ r120 = 0 then zbd (f146 K x3.toInt64 1 60 g119) fun r123 g122 => if r123 = 0 then some ((-3), g122) else (zbd (f146 K x4.toInt64 0 99 g122) fun r126 g125 => if ¬ r126 = 0 then if zin (1 + x1) 803 then if (g125 223 (1 + x1).toNatClampNeg) < x3 then some ((-4), g125) else if zin (5 + x2) 803 then if x4 ≤ (g125 223 (5 + x2).toNatClampNeg) then if zin (1 + x2) 803 then if ((g125 223 (1 + x2).toNatClampNeg) + x3) ≤ 60 then zbd (f188 K  g125) fun _ g128 => if zin (1 + x1) 803 then if zin (1 + x1) 803 then if zin (1 + x2) 803 then if zin (1 + x2) 803 then if zin (5 + x1) 803 then if zin (5 + x1) 803 then if zin (5 + x2) 803 then if zin (5 + x2) 803 then if zin (1 + x2) 803 then some (((zup (zup (zup (zup g128 223 (1 + x1).toNatClampNeg ((g128 223 (1 + x1).toNatClampNeg) - x3)) 223 (1 + x2).toNatClampNeg (((zup g128 223 (1 + x1).toNatClampNeg ((g128 223 (1 + x1).toNatClampNeg) - x3)) 223 (1 + x2).toNatClampNeg) + x3)) 223 (5 + x1).toNatClampNeg (((zup (zup g128 223 (1 + x1).toNatClampNeg ((g128 223 (1 + x1).toNatClampNeg) - x3)) 223 (1 + x2).toNatClampNeg (((zup g128 223 (1 + x1).toNatClampNeg ((g128 223 (1 + x1).toNatClampNeg) - x3)) 223 (1 + x2).toNatClampNeg) + x3)) 223 (5 + x1).toNatClampNeg) + x4)) 223 (5 + x2).toNatClampNeg (((zup (zup (zup g128 223 (1 + x1).toNatClampNeg ((g128 223 (1 + x1).toNatClampNeg) - x3)) 223 (1 + x2).toNatClampNeg (((zup g128 223 (1 + x1).toNatClampNeg ((g128 223 (1 + x1).toNatClampNeg) - x3)) 223 (1 + x2).toNatClampNeg) + x3)) 223 (5 + x1).toNatClampNeg (((zup (zup g128 223 (1 + x1).toNatClampNeg ((g128 223 (1 + x1).toNatClampNeg) - x3)) 223 (1 + x2).toNatClampNeg (((zup g128 223 (1 + x1).toNatClampNeg ((g128 223 (1 + x1).toNatClampNeg) - x3)) 223 (1 + x2).toNatClampNeg) + x3)) 223 (5 + x1).toNatClampNeg) + x4)) 223 (5 + x2).toNatClampNeg) - x4)) 223 (1 + x2).toNatClampNeg), (zup (zup (zup (zup g128 223 (1 + x1).toNatClampNeg ((g128 223 (1 + x1).toNatClampNeg) - x3)) 223 (1 + x2).toNatClampNeg (((zup g128 223 (1 + x1).toNatClampNeg ((g128 223 (1 + x1).toNatClampNeg) - x3)) 223 (1 + x2).toNatClampNeg) + x3)) 223 (5 + x1).toNatClampNeg (((zup (zup g128 223 (1 + x1).toNatClampNeg ((g128 223 (1 + x1).toNatClampNeg) - x3)) 223 (1 + x2).toNatClampNeg (((zup g128 223 (1 + x1).toNatClampNeg ((g128 223 (1 + x1).toNatClampNeg) - x3)) 223 (1 + x2).toNatClampNeg) + x3)) 223 (5 + x1).toNatClampNeg) + x4)) 223 (5 + x2).toNatClampNeg (((zup (zup (zup g128 223 (1 + x1).toNatClampNeg ((g128 223 (1 + x1).toNatClampNeg) - x3)) 223 (1 + x2).toNatClampNeg (((zup g128 223 (1 + x1).toNatClampNeg ((g128 223 (1 + x1).toNatClampNeg) - x3)) 223 (1 + x2).toNatClampNeg) + x3)) 223 (5 + x1).toNatClampNeg (((zup (zup g128 223 (1 + x1).toNatClampNeg ((g128 223 (1 + x1).toNatClampNeg) - x3)) 223 (1 + x2).toNatClampNeg (((zup g128 223 (1 + x1).toNatClampNeg ((g128 223 (1 + x1).toNatClampNeg) - x3)) 223 (1 + x2).toNatClampNeg) + x3)) 223 (5 + x1).toNatClampNeg) + x4)) 223 (5 + x2).toNatClampNeg) - x4))) else none else none else none else none else none else none else none else none else none else (some ((-5), g125)) else none else (some ((-4), g125)) else none else none else (some ((-3), g125))) else (some ((-2), g119))
theorem F193 {L : Nat} {xs : Nat → Int32} (K : Nat) (x1 : Int32) (x2 : Int32) (x3 : Int32) (x4 : Int32) (g : zS) (r : Int32) (g' : zS) (hE : f193 K x1 x2 x3 x4 g = some (r, g')) (d : Nat) : zE2 L xs (d + 4) 193 [.ref 222, .int x1, .int x2, .int x3, .int x4] g (some (.int r)) g' := by
  refine y_ev (n := 0) (d := d + 3) (ls := [some (.ref 222), some (.int x1), some (.int x2), some (.int x3), some (.int x4)]) zm193_get (by decide) (Nat.le_of_ble_eq_true rfl) rfl ?_
  unfold f193 at hE
  refine y_aload_n k193_0 rfl rfl ?_
  refine y_iload_n k193_1 rfl ?_
  refine y_iload_n k193_2 rfl ?_
  obtain ⟨r120, g119, hc121, hE⟩ := zbd_some hE
  refine y_invVi (j := 194) (As := [.int x1, .int x2]) (rest := []) (N := zm194) (F194 K x1 x2 _ r120 g119 hc121 (d + 0)) k193_3 lk_10_256 zm194_get na194 rfl (Nat.le_of_ble_eq_true rfl) sh222 (by decide) rfl ?_
  by_cases c136 : ¬ r120 = 0
  · rw [if_pos c136] at hE
    refine y_ifT (tgt := 12) k193_6 (by decide) c136 ?_
    refine y_iload_n k193_12 rfl ?_
    refine y_i2l k193_13 ?_
    refine y_lconst (v := 1) k193_14 rfl ?_
    refine y_ldc2 (v := 60) k193_15 cl_10_259 ?_
    obtain ⟨r123, g122, hc124, hE⟩ := zbd_some hE
    refine y_invSi (j := 146) (As := [.long x3.toInt64, .long 1, .long 60]) (rest := []) (N := zm146) (F146 K x3.toInt64 1 60 _ r123 g122 hc124 (d + 2)) k193_18 lk_10_65 zm146_get na146 rfl (Nat.le_of_ble_eq_true rfl) ?_
    by_cases c135 : r123 = 0
    · rw [if_pos c135] at hE
      refine y_ifT (tgt := 37) k193_21 (by decide) c135 ?_
      refine y_bipush (v := (-3)) k193_37 b8_m3 ?_
      obtain ⟨rfl, rfl⟩ := zpr hE
      exact y_iret k193_39 rfl
    · rw [if_neg c135] at hE
      refine y_ifF 37 k193_21 (by decide) c135 ?_
      refine y_iload k193_24 rfl ?_
      refine y_i2l k193_26 ?_
      refine y_lconst (v := 0) k193_27 rfl ?_
      refine y_ldc2 (v := 99) k193_28 cl_10_261 ?_
      obtain ⟨r126, g125, hc127, hE⟩ := zbd_some hE
      refine y_invSi (j := 146) (As := [.long x4.toInt64, .long 0, .long 99]) (rest := []) (N := zm146) (F146 K x4.toInt64 0 99 _ r126 g125 hc127 (d + 2)) k193_31 lk_10_65 zm146_get na146 rfl (Nat.le_of_ble_eq_true rfl) ?_
      by_cases c134 : ¬ r126 = 0
      · rw [if_pos c134] at hE
        refine y_ifT (tgt := 40) k193_34 (by decide) c134 ?_
        refine y_aload_n k193_40 rfl rfl ?_
        refine y_getR k193_41 fk_10_7 sh222 rfl ?_
        refine y_iconst (v := 1) k193_44 oi_1 ?_
        refine y_iload_n k193_45 rfl ?_
        refine y_iadd k193_46 ?_
        obtain ⟨hc, hE⟩ := zif_some hE
        refine y_iald k193_47 ar223 (zinN ln223 hc) ?_
        refine y_iload_n k193_48 rfl ?_
        by_cases c133 : (g125 223 (1 + x1).toNatClampNeg) < x3
        · rw [if_pos c133] at hE
          refine y_icT (tgt := 65) k193_49 (by decide) c133 ?_
          refine y_bipush (v := (-4)) k193_65 b8_m4 ?_
          obtain ⟨rfl, rfl⟩ := zpr hE
          exact y_iret k193_67 rfl
        · rw [if_neg c133] at hE
          refine y_icF 65 k193_49 (by decide) c133 ?_
          refine y_aload_n k193_52 rfl rfl ?_
          refine y_getR k193_53 fk_10_7 sh222 rfl ?_
          refine y_iconst (v := 5) k193_56 oi_5 ?_
          refine y_iload_n k193_57 rfl ?_
          refine y_iadd k193_58 ?_
          obtain ⟨hc, hE⟩ := zif_some hE
          refine y_iald k193_59 ar223 (zinN ln223 hc) ?_
          refine y_iload k193_60 rfl ?_
          by_cases c132 : x4 ≤ (g125 223 (5 + x2).toNatClampNeg)
          · rw [if_pos c132] at hE
            refine y_icT (tgt := 68) k193_62 (by decide) c132 ?_
            refine y_aload_n k193_68 rfl rfl ?_
            refine y_getR k193_69 fk_10_7 sh222 rfl ?_
            refine y_iconst (v := 1) k193_72 oi_1 ?_
            refine y_iload_n k193_73 rfl ?_
            refine y_iadd k193_74 ?_
            obtain ⟨hc, hE⟩ := zif_some hE
            refine y_iald k193_75 ar223 (zinN ln223 hc) ?_
            refine y_iload_n k193_76 rfl ?_
            refine y_iadd k193_77 ?_
            refine y_bipush (v := 60) k193_78 b8_60 ?_
            by_cases c131 : ((g125 223 (1 + x2).toNatClampNeg) + x3) ≤ 60
            · rw [if_pos c131] at hE
              refine y_icT (tgt := 86) k193_80 (by decide) c131 ?_
              refine y_aload_n k193_86 rfl rfl ?_
              obtain ⟨u129, g128, hc130, hE⟩ := zbd_some hE
              refine y_invVv (j := 188) (As := []) (rest := []) (N := zm188) (F188 K  _ u129 g128 hc130 (d + 1)) k193_87 lk_10_247 zm188_get na188 rfl (Nat.le_of_ble_eq_true rfl) sh222 (by decide) rfl ?_
              refine y_aload_n k193_90 rfl rfl ?_
              refine y_getR k193_91 fk_10_7 sh222 rfl ?_
              refine y_iconst (v := 1) k193_94 oi_1 ?_
              refine y_iload_n k193_95 rfl ?_
              refine y_iadd k193_96 ?_
              refine y_dup2 k193_97 rfl rfl ?_
              obtain ⟨hc, hE⟩ := zif_some hE
              refine y_iald k193_98 ar223 (zinN ln223 hc) ?_
              refine y_iload_n k193_99 rfl ?_
              refine y_isub k193_100 ?_
              obtain ⟨hc, hE⟩ := zif_some hE
              refine y_iast k193_101 ar223 (zinN ln223 hc) ?_
              refine y_aload_n k193_102 rfl rfl ?_
              refine y_getR k193_103 fk_10_7 sh222 rfl ?_
              refine y_iconst (v := 1) k193_106 oi_1 ?_
              refine y_iload_n k193_107 rfl ?_
              refine y_iadd k193_108 ?_
              refine y_dup2 k193_109 rfl rfl ?_
              obtain ⟨hc, hE⟩ := zif_some hE
              refine y_iald k193_110 ar223 (zinN ln223 hc) ?_
              refine y_iload_n k193_111 rfl ?_
              refine y_iadd k193_112 ?_
              obtain ⟨hc, hE⟩ := zif_some hE
              refine y_iast k193_113 ar223 (zinN ln223 hc) ?_
              refine y_aload_n k193_114 rfl rfl ?_
              refine y_getR k193_115 fk_10_7 sh222 rfl ?_
              refine y_iconst (v := 5) k193_118 oi_5 ?_
              refine y_iload_n k193_119 rfl ?_
              refine y_iadd k193_120 ?_
              refine y_dup2 k193_121 rfl rfl ?_
              obtain ⟨hc, hE⟩ := zif_some hE
              refine y_iald k193_122 ar223 (zinN ln223 hc) ?_
              refine y_iload k193_123 rfl ?_
              refine y_iadd k193_125 ?_
              obtain ⟨hc, hE⟩ := zif_some hE
              refine y_iast k193_126 ar223 (zinN ln223 hc) ?_
              refine y_aload_n k193_127 rfl rfl ?_
              refine y_getR k193_128 fk_10_7 sh222 rfl ?_
              refine y_iconst (v := 5) k193_131 oi_5 ?_
              refine y_iload_n k193_132 rfl ?_
              refine y_iadd k193_133 ?_
              refine y_dup2 k193_134 rfl rfl ?_
              obtain ⟨hc, hE⟩ := zif_some hE
              refine y_iald k193_135 ar223 (zinN ln223 hc) ?_
              refine y_iload k193_136 rfl ?_
              refine y_isub k193_138 ?_
              obtain ⟨hc, hE⟩ := zif_some hE
              refine y_iast k193_139 ar223 (zinN ln223 hc) ?_
              refine y_aload_n k193_140 rfl rfl ?_
              refine y_getR k193_141 fk_10_7 sh222 rfl ?_
              refine y_iconst (v := 1) k193_144 oi_1 ?_
              refine y_iload_n k193_145 rfl ?_
              refine y_iadd k193_146 ?_
              obtain ⟨hc, hE⟩ := zif_some hE
              refine y_iald k193_147 ar223 (zinN ln223 hc) ?_
              obtain ⟨rfl, rfl⟩ := zpr hE
              exact y_iret k193_148 rfl
            · rw [if_neg c131] at hE
              refine y_icF 86 k193_80 (by decide) c131 ?_
              refine y_bipush (v := (-5)) k193_83 b8_m5 ?_
              obtain ⟨rfl, rfl⟩ := zpr hE
              exact y_iret k193_85 rfl
          · rw [if_neg c132] at hE
            refine y_icF 68 k193_62 (by decide) c132 ?_
            refine y_bipush (v := (-4)) k193_65 b8_m4 ?_
            obtain ⟨rfl, rfl⟩ := zpr hE
            exact y_iret k193_67 rfl
      · rw [if_neg c134] at hE
        refine y_ifF 40 k193_34 (by decide) c134 ?_
        refine y_bipush (v := (-3)) k193_37 b8_m3 ?_
        obtain ⟨rfl, rfl⟩ := zpr hE
        exact y_iret k193_39 rfl
  · rw [if_neg c136] at hE
    refine y_ifF 12 k193_6 (by decide) c136 ?_
    refine y_bipush (v := (-2)) k193_9 b8_m2 ?_
    obtain ⟨rfl, rfl⟩ := zpr hE
    exact y_iret k193_11 rfl
-- AdjectiveCouponsModel.owe
def f195 (K : Nat) (x1 : Int32) (x2 : Int32) (x3 : Int32) (g : zS) : Option (Int32 × zS) := zbd (f194 K x1 x2 g) fun r114 g113 => if ¬ r114 = 0 then zbd (f146 K x3.toInt64 1 99 g113) fun r117 g116 => if ¬ r117 = 0 then if zin ((57 + (4 * x1)) + x2) 803 then if ((g116 223 ((57 + (4 * x1)) + x2).toNatClampNeg) + x3) ≤ 999 then zbd (f188 K  g116) fun _ g119 => if zin ((57 + (4 * x1)) + x2) 803 then if zin ((57 + (4 * x1)) + x2) 803 then if zin ((57 + (4 * x1)) + x2) 803 then some (((zup g119 223 ((57 + (4 * x1)) + x2).toNatClampNeg ((g119 223 ((57 + (4 * x1)) + x2).toNatClampNeg) + x3)) 223 ((57 + (4 * x1)) + x2).toNatClampNeg), (zup g119 223 ((57 + (4 * x1)) + x2).toNatClampNeg ((g119 223 ((57 + (4 * x1)) + x2).toNatClampNeg) + x3))) else none else none else none else (some ((-5), g116)) else none else (some ((-3), g116)) else (some ((-2), g113))
theorem F195 {L : Nat} {xs : Nat → Int32} (K : Nat) (x1 : Int32) (x2 : Int32) (x3 : Int32) (g : zS) (r : Int32) (g' : zS) (hE : f195 K x1 x2 x3 g = some (r, g')) (d : Nat) : zE2 L xs (d + 4) 195 [.ref 222, .int x1, .int x2, .int x3] g (some (.int r)) g' := by
  refine y_ev (n := 0) (d := d + 3) (ls := [some (.ref 222), some (.int x1), some (.int x2), some (.int x3)]) zm195_get (by decide) (Nat.le_of_ble_eq_true rfl) rfl ?_
  unfold f195 at hE
  refine y_aload_n k195_0 rfl rfl ?_
  refine y_iload_n k195_1 rfl ?_
  refine y_iload_n k195_2 rfl ?_
  obtain ⟨r114, g113, hc115, hE⟩ := zbd_some hE
  refine y_invVi (j := 194) (As := [.int x1, .int x2]) (rest := []) (N := zm194) (F194 K x1 x2 _ r114 g113 hc115 (d + 0)) k195_3 lk_10_256 zm194_get na194 rfl (Nat.le_of_ble_eq_true rfl) sh222 (by decide) rfl ?_
  by_cases c124 : ¬ r114 = 0
  · rw [if_pos c124] at hE
    refine y_ifT (tgt := 12) k195_6 (by decide) c124 ?_
    refine y_iload_n k195_12 rfl ?_
    refine y_i2l k195_13 ?_
    refine y_lconst (v := 1) k195_14 rfl ?_
    refine y_ldc2 (v := 99) k195_15 cl_10_261 ?_
    obtain ⟨r117, g116, hc118, hE⟩ := zbd_some hE
    refine y_invSi (j := 146) (As := [.long x3.toInt64, .long 1, .long 99]) (rest := []) (N := zm146) (F146 K x3.toInt64 1 99 _ r117 g116 hc118 (d + 2)) k195_18 lk_10_65 zm146_get na146 rfl (Nat.le_of_ble_eq_true rfl) ?_
    by_cases c123 : ¬ r117 = 0
    · rw [if_pos c123] at hE
      refine y_ifT (tgt := 27) k195_21 (by decide) c123 ?_
      refine y_aload_n k195_27 rfl rfl ?_
      refine y_getR k195_28 fk_10_7 sh222 rfl ?_
      refine y_bipush (v := 57) k195_31 b8_57 ?_
      refine y_iconst (v := 4) k195_33 oi_4 ?_
      refine y_iload_n k195_34 rfl ?_
      refine y_imul k195_35 ?_
      refine y_iadd k195_36 ?_
      refine y_iload_n k195_37 rfl ?_
      refine y_iadd k195_38 ?_
      obtain ⟨hc, hE⟩ := zif_some hE
      refine y_iald k195_39 ar223 (zinN ln223 hc) ?_
      refine y_iload_n k195_40 rfl ?_
      refine y_iadd k195_41 ?_
      refine y_sipush (v := 999) k195_42 s16_999 ?_
      by_cases c122 : ((g116 223 ((57 + (4 * x1)) + x2).toNatClampNeg) + x3) ≤ 999
      · rw [if_pos c122] at hE
        refine y_icT (tgt := 51) k195_45 (by decide) c122 ?_
        refine y_aload_n k195_51 rfl rfl ?_
        obtain ⟨u120, g119, hc121, hE⟩ := zbd_some hE
        refine y_invVv (j := 188) (As := []) (rest := []) (N := zm188) (F188 K  _ u120 g119 hc121 (d + 1)) k195_52 lk_10_247 zm188_get na188 rfl (Nat.le_of_ble_eq_true rfl) sh222 (by decide) rfl ?_
        refine y_aload_n k195_55 rfl rfl ?_
        refine y_getR k195_56 fk_10_7 sh222 rfl ?_
        refine y_bipush (v := 57) k195_59 b8_57 ?_
        refine y_iconst (v := 4) k195_61 oi_4 ?_
        refine y_iload_n k195_62 rfl ?_
        refine y_imul k195_63 ?_
        refine y_iadd k195_64 ?_
        refine y_iload_n k195_65 rfl ?_
        refine y_iadd k195_66 ?_
        refine y_dup2 k195_67 rfl rfl ?_
        obtain ⟨hc, hE⟩ := zif_some hE
        refine y_iald k195_68 ar223 (zinN ln223 hc) ?_
        refine y_iload_n k195_69 rfl ?_
        refine y_iadd k195_70 ?_
        obtain ⟨hc, hE⟩ := zif_some hE
        refine y_iast k195_71 ar223 (zinN ln223 hc) ?_
        refine y_aload_n k195_72 rfl rfl ?_
        refine y_getR k195_73 fk_10_7 sh222 rfl ?_
        refine y_bipush (v := 57) k195_76 b8_57 ?_
        refine y_iconst (v := 4) k195_78 oi_4 ?_
        refine y_iload_n k195_79 rfl ?_
        refine y_imul k195_80 ?_
        refine y_iadd k195_81 ?_
        refine y_iload_n k195_82 rfl ?_
        refine y_iadd k195_83 ?_
        obtain ⟨hc, hE⟩ := zif_some hE
        refine y_iald k195_84 ar223 (zinN ln223 hc) ?_
        obtain ⟨rfl, rfl⟩ := zpr hE
        exact y_iret k195_85 rfl
      · rw [if_neg c122] at hE
        refine y_icF 51 k195_45 (by decide) c122 ?_
        refine y_bipush (v := (-5)) k195_48 b8_m5 ?_
        obtain ⟨rfl, rfl⟩ := zpr hE
        exact y_iret k195_50 rfl
    · rw [if_neg c123] at hE
      refine y_ifF 27 k195_21 (by decide) c123 ?_
      refine y_bipush (v := (-3)) k195_24 b8_m3 ?_
      obtain ⟨rfl, rfl⟩ := zpr hE
      exact y_iret k195_26 rfl
  · rw [if_neg c124] at hE
    refine y_ifF 12 k195_6 (by decide) c124 ?_
    refine y_bipush (v := (-2)) k195_9 b8_m2 ?_
    obtain ⟨rfl, rfl⟩ := zpr hE
    exact y_iret k195_11 rfl
-- AdjectiveCouponsModel.owes
def f196 (K : Nat) (x1 : Int32) (x2 : Int32) (g : zS) : Option (Int32 × zS) := zbd (f194 K x1 x2 g) fun r106 g105 => if r106 = 0 then some ((-2), g105) else if zin ((57 + (4 * x1)) + x2) 803 then some ((g105 223 ((57 + (4 * x1)) + x2).toNatClampNeg), g105) else none
theorem F196 {L : Nat} {xs : Nat → Int32} (K : Nat) (x1 : Int32) (x2 : Int32) (g : zS) (r : Int32) (g' : zS) (hE : f196 K x1 x2 g = some (r, g')) (d : Nat) : zE2 L xs (d + 4) 196 [.ref 222, .int x1, .int x2] g (some (.int r)) g' := by
  refine y_ev (n := 0) (d := d + 3) (ls := [some (.ref 222), some (.int x1), some (.int x2)]) zm196_get (by decide) (Nat.le_of_ble_eq_true rfl) rfl ?_
  unfold f196 at hE
  refine y_aload_n k196_0 rfl rfl ?_
  refine y_iload_n k196_1 rfl ?_
  refine y_iload_n k196_2 rfl ?_
  obtain ⟨r106, g105, hc107, hE⟩ := zbd_some hE
  refine y_invVi (j := 194) (As := [.int x1, .int x2]) (rest := []) (N := zm194) (F194 K x1 x2 _ r106 g105 hc107 (d + 0)) k196_3 lk_10_256 zm194_get na194 rfl (Nat.le_of_ble_eq_true rfl) sh222 (by decide) rfl ?_
  by_cases c108 : r106 = 0
  · rw [if_pos c108] at hE
    refine y_ifT (tgt := 25) k196_6 (by decide) c108 ?_
    refine y_bipush (v := (-2)) k196_25 b8_m2 ?_
    obtain ⟨rfl, rfl⟩ := zpr hE
    exact y_iret k196_27 rfl
  · rw [if_neg c108] at hE
    refine y_ifF 25 k196_6 (by decide) c108 ?_
    refine y_aload_n k196_9 rfl rfl ?_
    refine y_getR k196_10 fk_10_7 sh222 rfl ?_
    refine y_bipush (v := 57) k196_13 b8_57 ?_
    refine y_iconst (v := 4) k196_15 oi_4 ?_
    refine y_iload_n k196_16 rfl ?_
    refine y_imul k196_17 ?_
    refine y_iadd k196_18 ?_
    refine y_iload_n k196_19 rfl ?_
    refine y_iadd k196_20 ?_
    obtain ⟨hc, hE⟩ := zif_some hE
    refine y_iald k196_21 ar223 (zinN ln223 hc) ?_
    refine y_goto (tgt := 27) k196_22 (by decide) ?_
    obtain ⟨rfl, rfl⟩ := zpr hE
    exact y_iret k196_27 rfl
-- AdjectiveCouponsModel.left
def f225_162 (K : Nat) (k22 : Int32 → Int32 → Int32 → Int32 → zS → Option (Int32 × zS)) (x1 : Int32) (x3 : Int32) (x4 : Int32) (xs0 : Int32) (xs1 : Int32) (g : zS) : Option (Int32 × zS) := k22 x1 (xs0 + xs1) x3 (x4 + 1) g
def f225_150 (K : Nat) (k22 : Int32 → Int32 → Int32 → Int32 → zS → Option (Int32 × zS)) (x1 : Int32) (x2 : Int32) (x4 : Int32) (x9 : Int32) (xs0 : Int32) (g : zS) : Option (Int32 × zS) := if x9 = 0 then f225_162 K k22 x1 xs0 x4 x2 0 g else (f225_162 K k22 x1 xs0 x4 x2 1 g)
def f225_149 (K : Nat) (k22 : Int32 → Int32 → Int32 → Int32 → zS → Option (Int32 × zS)) (x1 : Int32) (x2 : Int32) (x3 : Int32) (x4 : Int32) (x9 : Int32) (g : zS) : Option (Int32 × zS) := f225_150 K k22 x1 x2 x4 x9 x3 g
def f225_133 (K : Nat) (k22 : Int32 → Int32 → Int32 → Int32 → zS → Option (Int32 × zS)) (x1 : Int32) (x2 : Int32) (x3 : Int32) (x4 : Int32) (xs0 : Int32) (g : zS) : Option (Int32 × zS) := if xs0 = 0 then f225_149 K k22 x1 x2 x3 x4 xs0 g else if ¬ x2 = 0 then f225_149 K k22 x1 x2 x3 x4 xs0 g else (f225_150 K k22 x1 x2 x4 xs0 x4 g)
def f225_132 (K : Nat) (k22 : Int32 → Int32 → Int32 → Int32 → zS → Option (Int32 × zS)) (x1 : Int32) (x2 : Int32) (x3 : Int32) (x4 : Int32) (g : zS) : Option (Int32 × zS) := f225_133 K k22 x1 x2 x3 x4 0 g
def f225_69 (K : Nat) (k22 : Int32 → Int32 → Int32 → Int32 → zS → Option (Int32 × zS)) (x1 : Int32) (x2 : Int32) (x3 : Int32) (x4 : Int32) (x5 : Int32) (x6 : Int32) (x7 : Int32) (xs0 : Int32) (g : zS) : Option (Int32 × zS) := if x7 = 0 then f225_132 K k22 x1 x2 x3 x4 g else if zin (1 + x5) 803 then if (g 223 (1 + x5).toNatClampNeg) ≤ 0 then f225_132 K k22 x1 x2 x3 x4 g else if zin (1 + x6) 803 then if 60 ≤ (g 223 (1 + x6).toNatClampNeg) then f225_132 K k22 x1 x2 x3 x4 g else if zin (5 + x6) 803 then if (g 223 (5 + x6).toNatClampNeg) < xs0 then f225_132 K k22 x1 x2 x3 x4 g else if zin x6 4 then if (g 231 x6.toNatClampNeg) ≤ xs0 then f225_132 K k22 x1 x2 x3 x4 g else (f225_133 K k22 x1 x2 x3 x4 1 g) else none else none else none else none
def f225_22 (K : Nat) : Nat → Int32 → Int32 → Int32 → Int32 → zS → Option (Int32 × zS)
  | 0, _, _, _, _, _ => none
  | n + 1, x1, x2, x3, x4, g => if 16 ≤ x4 then if ¬ x1 = 0 then if ¬ x3 = (-1) then if ¬ x1 = 1 then some ((x3 - x3 / 4 * 4), g) else (some ((x3 / 4), g)) else (some ((-1), g)) else (some (x2, g)) else (zbd (f194 K (x4 / 4) (x4 - x4 / 4 * 4) g) fun r217 g216 => if r217 = 0 then f225_69 K (f225_22 K n) x1 x2 x3 x4 (x4 / 4) (x4 - x4 / 4 * 4) r217 0 g216 else if zin (x4 / 4) 4 then f225_69 K (f225_22 K n) x1 x2 x3 x4 (x4 / 4) (x4 - x4 / 4 * 4) r217 ((g216 231 (x4 / 4).toNatClampNeg) + 1) g216 else none)
def f225 (K : Nat) (x1 : Int32) (g : zS) : Option (Int32 × zS) := zbd (f146 K x1.toInt64 0 2 g) fun r222 g221 => if ¬ r222 = 0 then f225_22 K K x1 0 (-1) 0 g221 else (some ((-3), g221))
theorem F225_162 {L : Nat} {xs : Nat → Int32} {d : Nat} (K : Nat) (k22 : Int32 → Int32 → Int32 → Int32 → zS → Option (Int32 × zS)) (hk22 : ∀ (x1 : Int32) (x2 : Int32) (x3 : Int32) (x4 : Int32) (g : zS) (r : Int32) (g' : zS), k22 x1 x2 x3 x4 g = some (r, g') → zG2 L xs (d + 3) zm225 22 [some (.ref 222), some (.int x1), some (.int x2), some (.int x3), some (.int x4), none, none, none, none, none] [] g (some (.int r)) g') (x1 : Int32) (x3 : Int32) (x4 : Int32) (xs0 : Int32) (xs1 : Int32) (g : zS) (r : Int32) (g' : zS) (hE : f225_162 K k22 x1 x3 x4 xs0 xs1 g = some (r, g')) : zG2 L xs (d + 3) zm225 162 [some (.ref 222), some (.int x1), none, some (.int x3), some (.int x4), none, none, none, none, none] [.int xs1, .int xs0] g (some (.int r)) g' := by
  unfold f225_162 at hE
  refine y_iadd k225_162 ?_
  refine y_istore_n (ls2 := [some (.ref 222), some (.int x1), some (.int (xs0 + xs1)), some (.int x3), some (.int x4), none, none, none, none, none]) k225_163 rfl (Nat.le_of_ble_eq_true rfl) rfl ?_
  refine y_iinc (v := (x4 + 1)) (ls2 := [some (.ref 222), some (.int x1), some (.int (xs0 + xs1)), some (.int x3), some (.int (x4 + 1)), none, none, none, none, none]) k225_164 rfl rfl (by rw [oi_1]) rfl ?_
  refine y_goto (tgt := 22) k225_167 (by decide) ?_
  exact hk22 x1 (xs0 + xs1) x3 (x4 + 1) _ _ _ hE
theorem F225_150 {L : Nat} {xs : Nat → Int32} {d : Nat} (K : Nat) (k22 : Int32 → Int32 → Int32 → Int32 → zS → Option (Int32 × zS)) (hk22 : ∀ (x1 : Int32) (x2 : Int32) (x3 : Int32) (x4 : Int32) (g : zS) (r : Int32) (g' : zS), k22 x1 x2 x3 x4 g = some (r, g') → zG2 L xs (d + 3) zm225 22 [some (.ref 222), some (.int x1), some (.int x2), some (.int x3), some (.int x4), none, none, none, none, none] [] g (some (.int r)) g') (x1 : Int32) (x2 : Int32) (x4 : Int32) (x9 : Int32) (xs0 : Int32) (g : zS) (r : Int32) (g' : zS) (hE : f225_150 K k22 x1 x2 x4 x9 xs0 g = some (r, g')) : zG2 L xs (d + 3) zm225 150 [some (.ref 222), some (.int x1), some (.int x2), none, some (.int x4), none, none, none, none, some (.int x9)] [.int xs0] g (some (.int r)) g' := by
  unfold f225_150 at hE
  refine y_istore_n (ls2 := [some (.ref 222), some (.int x1), some (.int x2), some (.int xs0), some (.int x4), none, none, none, none, some (.int x9)]) k225_150 rfl (Nat.le_of_ble_eq_true rfl) rfl ?_
  refine y_iload_n k225_151 rfl ?_
  refine y_iload k225_152 rfl ?_
  by_cases c205 : x9 = 0
  · rw [if_pos c205] at hE
    refine y_ifT (tgt := 161) k225_154 (by decide) c205 ?_
    refine y_iconst (v := 0) k225_161 oi_0 ?_
    exact y_weak (ls0 := [some (.ref 222), some (.int x1), none, some (.int xs0), some (.int x4), none, none, none, none, none]) ⟨rfl, rfl, rfl, rfl, rfl, rfl, rfl, rfl, rfl, rfl, trivial⟩ (F225_162 K k22 hk22 x1 xs0 x4 x2 0 _ _ _ hE)
  · rw [if_neg c205] at hE
    refine y_ifF 161 k225_154 (by decide) c205 ?_
    refine y_iconst (v := 1) k225_157 oi_1 ?_
    refine y_goto (tgt := 162) k225_158 (by decide) ?_
    exact y_weak (ls0 := [some (.ref 222), some (.int x1), none, some (.int xs0), some (.int x4), none, none, none, none, none]) ⟨rfl, rfl, rfl, rfl, rfl, rfl, rfl, rfl, rfl, rfl, trivial⟩ (F225_162 K k22 hk22 x1 xs0 x4 x2 1 _ _ _ hE)
theorem F225_149 {L : Nat} {xs : Nat → Int32} {d : Nat} (K : Nat) (k22 : Int32 → Int32 → Int32 → Int32 → zS → Option (Int32 × zS)) (hk22 : ∀ (x1 : Int32) (x2 : Int32) (x3 : Int32) (x4 : Int32) (g : zS) (r : Int32) (g' : zS), k22 x1 x2 x3 x4 g = some (r, g') → zG2 L xs (d + 3) zm225 22 [some (.ref 222), some (.int x1), some (.int x2), some (.int x3), some (.int x4), none, none, none, none, none] [] g (some (.int r)) g') (x1 : Int32) (x2 : Int32) (x3 : Int32) (x4 : Int32) (x9 : Int32) (g : zS) (r : Int32) (g' : zS) (hE : f225_149 K k22 x1 x2 x3 x4 x9 g = some (r, g')) : zG2 L xs (d + 3) zm225 149 [some (.ref 222), some (.int x1), some (.int x2), some (.int x3), some (.int x4), none, none, none, none, some (.int x9)] [] g (some (.int r)) g' := by
  unfold f225_149 at hE
  refine y_iload_n k225_149 rfl ?_
  exact y_weak (ls0 := [some (.ref 222), some (.int x1), some (.int x2), none, some (.int x4), none, none, none, none, some (.int x9)]) ⟨rfl, rfl, rfl, rfl, rfl, rfl, rfl, rfl, rfl, rfl, trivial⟩ (F225_150 K k22 hk22 x1 x2 x4 x9 x3 _ _ _ hE)
theorem F225_133 {L : Nat} {xs : Nat → Int32} {d : Nat} (K : Nat) (k22 : Int32 → Int32 → Int32 → Int32 → zS → Option (Int32 × zS)) (hk22 : ∀ (x1 : Int32) (x2 : Int32) (x3 : Int32) (x4 : Int32) (g : zS) (r : Int32) (g' : zS), k22 x1 x2 x3 x4 g = some (r, g') → zG2 L xs (d + 3) zm225 22 [some (.ref 222), some (.int x1), some (.int x2), some (.int x3), some (.int x4), none, none, none, none, none] [] g (some (.int r)) g') (x1 : Int32) (x2 : Int32) (x3 : Int32) (x4 : Int32) (xs0 : Int32) (g : zS) (r : Int32) (g' : zS) (hE : f225_133 K k22 x1 x2 x3 x4 xs0 g = some (r, g')) : zG2 L xs (d + 3) zm225 133 [some (.ref 222), some (.int x1), some (.int x2), some (.int x3), some (.int x4), none, none, none, none, none] [.int xs0] g (some (.int r)) g' := by
  unfold f225_133 at hE
  refine y_istore (ls2 := [some (.ref 222), some (.int x1), some (.int x2), some (.int x3), some (.int x4), none, none, none, none, some (.int xs0)]) k225_133 rfl (Nat.le_of_ble_eq_true rfl) rfl ?_
  refine y_iload k225_135 rfl ?_
  by_cases c207 : xs0 = 0
  · rw [if_pos c207] at hE
    refine y_ifT (tgt := 149) k225_137 (by decide) c207 ?_
    exact F225_149 K k22 hk22 x1 x2 x3 x4 xs0 _ _ _ hE
  · rw [if_neg c207] at hE
    refine y_ifF 149 k225_137 (by decide) c207 ?_
    refine y_iload_n k225_140 rfl ?_
    by_cases c206 : ¬ x2 = 0
    · rw [if_pos c206] at hE
      refine y_ifT (tgt := 149) k225_141 (by decide) c206 ?_
      exact F225_149 K k22 hk22 x1 x2 x3 x4 xs0 _ _ _ hE
    · rw [if_neg c206] at hE
      refine y_ifF 149 k225_141 (by decide) c206 ?_
      refine y_iload k225_144 rfl ?_
      refine y_goto (tgt := 150) k225_146 (by decide) ?_
      exact y_weak (ls0 := [some (.ref 222), some (.int x1), some (.int x2), none, some (.int x4), none, none, none, none, some (.int xs0)]) ⟨rfl, rfl, rfl, rfl, rfl, rfl, rfl, rfl, rfl, rfl, trivial⟩ (F225_150 K k22 hk22 x1 x2 x4 xs0 x4 _ _ _ hE)
theorem F225_132 {L : Nat} {xs : Nat → Int32} {d : Nat} (K : Nat) (k22 : Int32 → Int32 → Int32 → Int32 → zS → Option (Int32 × zS)) (hk22 : ∀ (x1 : Int32) (x2 : Int32) (x3 : Int32) (x4 : Int32) (g : zS) (r : Int32) (g' : zS), k22 x1 x2 x3 x4 g = some (r, g') → zG2 L xs (d + 3) zm225 22 [some (.ref 222), some (.int x1), some (.int x2), some (.int x3), some (.int x4), none, none, none, none, none] [] g (some (.int r)) g') (x1 : Int32) (x2 : Int32) (x3 : Int32) (x4 : Int32) (g : zS) (r : Int32) (g' : zS) (hE : f225_132 K k22 x1 x2 x3 x4 g = some (r, g')) : zG2 L xs (d + 3) zm225 132 [some (.ref 222), some (.int x1), some (.int x2), some (.int x3), some (.int x4), none, none, none, none, none] [] g (some (.int r)) g' := by
  unfold f225_132 at hE
  refine y_iconst (v := 0) k225_132 oi_0 ?_
  exact F225_133 K k22 hk22 x1 x2 x3 x4 0 _ _ _ hE
theorem F225_69 {L : Nat} {xs : Nat → Int32} {d : Nat} (K : Nat) (k22 : Int32 → Int32 → Int32 → Int32 → zS → Option (Int32 × zS)) (hk22 : ∀ (x1 : Int32) (x2 : Int32) (x3 : Int32) (x4 : Int32) (g : zS) (r : Int32) (g' : zS), k22 x1 x2 x3 x4 g = some (r, g') → zG2 L xs (d + 3) zm225 22 [some (.ref 222), some (.int x1), some (.int x2), some (.int x3), some (.int x4), none, none, none, none, none] [] g (some (.int r)) g') (x1 : Int32) (x2 : Int32) (x3 : Int32) (x4 : Int32) (x5 : Int32) (x6 : Int32) (x7 : Int32) (xs0 : Int32) (g : zS) (r : Int32) (g' : zS) (hE : f225_69 K k22 x1 x2 x3 x4 x5 x6 x7 xs0 g = some (r, g')) : zG2 L xs (d + 3) zm225 69 [some (.ref 222), some (.int x1), some (.int x2), some (.int x3), some (.int x4), some (.int x5), some (.int x6), some (.int x7), none, none] [.int xs0] g (some (.int r)) g' := by
  unfold f225_69 at hE
  refine y_istore (ls2 := [some (.ref 222), some (.int x1), some (.int x2), some (.int x3), some (.int x4), some (.int x5), some (.int x6), some (.int x7), some (.int xs0), none]) k225_69 rfl (Nat.le_of_ble_eq_true rfl) rfl ?_
  refine y_iload k225_71 rfl ?_
  by_cases c212 : x7 = 0
  · rw [if_pos c212] at hE
    refine y_ifT (tgt := 132) k225_73 (by decide) c212 ?_
    exact y_weak (ls0 := [some (.ref 222), some (.int x1), some (.int x2), some (.int x3), some (.int x4), none, none, none, none, none]) ⟨rfl, rfl, rfl, rfl, rfl, rfl, rfl, rfl, rfl, rfl, trivial⟩ (F225_132 K k22 hk22 x1 x2 x3 x4 _ _ _ hE)
  · rw [if_neg c212] at hE
    refine y_ifF 132 k225_73 (by decide) c212 ?_
    refine y_aload_n k225_76 rfl rfl ?_
    refine y_getR k225_77 fk_10_7 sh222 rfl ?_
    refine y_iconst (v := 1) k225_80 oi_1 ?_
    refine y_iload k225_81 rfl ?_
    refine y_iadd k225_83 ?_
    obtain ⟨hc, hE⟩ := zif_some hE
    refine y_iald k225_84 ar223 (zinN ln223 hc) ?_
    by_cases c211 : (g 223 (1 + x5).toNatClampNeg) ≤ 0
    · rw [if_pos c211] at hE
      refine y_ifT (tgt := 132) k225_85 (by decide) c211 ?_
      exact y_weak (ls0 := [some (.ref 222), some (.int x1), some (.int x2), some (.int x3), some (.int x4), none, none, none, none, none]) ⟨rfl, rfl, rfl, rfl, rfl, rfl, rfl, rfl, rfl, rfl, trivial⟩ (F225_132 K k22 hk22 x1 x2 x3 x4 _ _ _ hE)
    · rw [if_neg c211] at hE
      refine y_ifF 132 k225_85 (by decide) c211 ?_
      refine y_aload_n k225_88 rfl rfl ?_
      refine y_getR k225_89 fk_10_7 sh222 rfl ?_
      refine y_iconst (v := 1) k225_92 oi_1 ?_
      refine y_iload k225_93 rfl ?_
      refine y_iadd k225_95 ?_
      obtain ⟨hc, hE⟩ := zif_some hE
      refine y_iald k225_96 ar223 (zinN ln223 hc) ?_
      refine y_bipush (v := 60) k225_97 b8_60 ?_
      by_cases c210 : 60 ≤ (g 223 (1 + x6).toNatClampNeg)
      · rw [if_pos c210] at hE
        refine y_icT (tgt := 132) k225_99 (by decide) c210 ?_
        exact y_weak (ls0 := [some (.ref 222), some (.int x1), some (.int x2), some (.int x3), some (.int x4), none, none, none, none, none]) ⟨rfl, rfl, rfl, rfl, rfl, rfl, rfl, rfl, rfl, rfl, trivial⟩ (F225_132 K k22 hk22 x1 x2 x3 x4 _ _ _ hE)
      · rw [if_neg c210] at hE
        refine y_icF 132 k225_99 (by decide) c210 ?_
        refine y_aload_n k225_102 rfl rfl ?_
        refine y_getR k225_103 fk_10_7 sh222 rfl ?_
        refine y_iconst (v := 5) k225_106 oi_5 ?_
        refine y_iload k225_107 rfl ?_
        refine y_iadd k225_109 ?_
        obtain ⟨hc, hE⟩ := zif_some hE
        refine y_iald k225_110 ar223 (zinN ln223 hc) ?_
        refine y_iload k225_111 rfl ?_
        by_cases c209 : (g 223 (5 + x6).toNatClampNeg) < xs0
        · rw [if_pos c209] at hE
          refine y_icT (tgt := 132) k225_113 (by decide) c209 ?_
          exact y_weak (ls0 := [some (.ref 222), some (.int x1), some (.int x2), some (.int x3), some (.int x4), none, none, none, none, none]) ⟨rfl, rfl, rfl, rfl, rfl, rfl, rfl, rfl, rfl, rfl, trivial⟩ (F225_132 K k22 hk22 x1 x2 x3 x4 _ _ _ hE)
        · rw [if_neg c209] at hE
          refine y_icF 132 k225_113 (by decide) c209 ?_
          refine y_aload_n k225_116 rfl rfl ?_
          refine y_getR k225_117 fk_10_35 sh222 rfl ?_
          refine y_iload k225_120 rfl ?_
          obtain ⟨hc, hE⟩ := zif_some hE
          refine y_iald k225_122 ar231 (zinN ln231 hc) ?_
          refine y_iload k225_123 rfl ?_
          by_cases c208 : (g 231 x6.toNatClampNeg) ≤ xs0
          · rw [if_pos c208] at hE
            refine y_icT (tgt := 132) k225_125 (by decide) c208 ?_
            exact y_weak (ls0 := [some (.ref 222), some (.int x1), some (.int x2), some (.int x3), some (.int x4), none, none, none, none, none]) ⟨rfl, rfl, rfl, rfl, rfl, rfl, rfl, rfl, rfl, rfl, trivial⟩ (F225_132 K k22 hk22 x1 x2 x3 x4 _ _ _ hE)
          · rw [if_neg c208] at hE
            refine y_icF 132 k225_125 (by decide) c208 ?_
            refine y_iconst (v := 1) k225_128 oi_1 ?_
            refine y_goto (tgt := 133) k225_129 (by decide) ?_
            exact y_weak (ls0 := [some (.ref 222), some (.int x1), some (.int x2), some (.int x3), some (.int x4), none, none, none, none, none]) ⟨rfl, rfl, rfl, rfl, rfl, rfl, rfl, rfl, rfl, rfl, trivial⟩ (F225_133 K k22 hk22 x1 x2 x3 x4 1 _ _ _ hE)
theorem F225_22 {L : Nat} {xs : Nat → Int32} {d : Nat} (K : Nat) : ∀ (n : Nat) (x1 : Int32) (x2 : Int32) (x3 : Int32) (x4 : Int32) (g : zS) (r : Int32) (g' : zS) (hE : f225_22 K n x1 x2 x3 x4 g = some (r, g')), zG2 L xs (d + 3) zm225 22 [some (.ref 222), some (.int x1), some (.int x2), some (.int x3), some (.int x4), none, none, none, none, none] [] g (some (.int r)) g' := by
  intro n
  induction n with
  | zero => intro x1 x2 x3 x4  g r g' hE; cases hE
  | succ n ih =>
    intro x1 x2 x3 x4  g r g' hE
    rw [f225_22] at hE
    refine y_iload k225_22 rfl ?_
    refine y_bipush (v := 16) k225_24 b8_16 ?_
    by_cases c220 : 16 ≤ x4
    · rw [if_pos c220] at hE
      refine y_icT (tgt := 170) k225_26 (by decide) c220 ?_
      refine y_iload_n k225_170 rfl ?_
      by_cases c215 : ¬ x1 = 0
      · rw [if_pos c215] at hE
        refine y_ifT (tgt := 178) k225_171 (by decide) c215 ?_
        refine y_iload_n k225_178 rfl ?_
        refine y_iconst (v := (-1)) k225_179 oi_m1 ?_
        by_cases c214 : ¬ x3 = (-1)
        · rw [if_pos c214] at hE
          refine y_icT (tgt := 187) k225_180 (by decide) c214 ?_
          refine y_iload_n k225_187 rfl ?_
          refine y_iconst (v := 1) k225_188 oi_1 ?_
          by_cases c213 : ¬ x1 = 1
          · rw [if_pos c213] at hE
            refine y_icT (tgt := 198) k225_189 (by decide) c213 ?_
            refine y_iload_n k225_198 rfl ?_
            refine y_iconst (v := 4) k225_199 oi_4 ?_
            refine y_irem k225_200 (by decide) ?_
            obtain ⟨rfl, rfl⟩ := zpr hE
            exact y_iret k225_201 rfl
          · rw [if_neg c213] at hE
            refine y_icF 198 k225_189 (by decide) c213 ?_
            refine y_iload_n k225_192 rfl ?_
            refine y_iconst (v := 4) k225_193 oi_4 ?_
            refine y_idiv k225_194 (by decide) ?_
            refine y_goto (tgt := 201) k225_195 (by decide) ?_
            obtain ⟨rfl, rfl⟩ := zpr hE
            exact y_iret k225_201 rfl
        · rw [if_neg c214] at hE
          refine y_icF 187 k225_180 (by decide) c214 ?_
          refine y_iconst (v := (-1)) k225_183 oi_m1 ?_
          refine y_goto (tgt := 201) k225_184 (by decide) ?_
          obtain ⟨rfl, rfl⟩ := zpr hE
          exact y_iret k225_201 rfl
      · rw [if_neg c215] at hE
        refine y_ifF 178 k225_171 (by decide) c215 ?_
        refine y_iload_n k225_174 rfl ?_
        refine y_goto (tgt := 201) k225_175 (by decide) ?_
        obtain ⟨rfl, rfl⟩ := zpr hE
        exact y_iret k225_201 rfl
    · rw [if_neg c220] at hE
      refine y_icF 170 k225_26 (by decide) c220 ?_
      refine y_iload k225_29 rfl ?_
      refine y_iconst (v := 4) k225_31 oi_4 ?_
      refine y_idiv k225_32 (by decide) ?_
      refine y_istore (ls2 := [some (.ref 222), some (.int x1), some (.int x2), some (.int x3), some (.int x4), some (.int (x4 / 4)), none, none, none, none]) k225_33 rfl (Nat.le_of_ble_eq_true rfl) rfl ?_
      refine y_iload k225_35 rfl ?_
      refine y_iconst (v := 4) k225_37 oi_4 ?_
      refine y_irem k225_38 (by decide) ?_
      refine y_istore (ls2 := [some (.ref 222), some (.int x1), some (.int x2), some (.int x3), some (.int x4), some (.int (x4 / 4)), some (.int (x4 - x4 / 4 * 4)), none, none, none]) k225_39 rfl (Nat.le_of_ble_eq_true rfl) rfl ?_
      refine y_aload_n k225_41 rfl rfl ?_
      refine y_iload k225_42 rfl ?_
      refine y_iload k225_44 rfl ?_
      obtain ⟨r217, g216, hc218, hE⟩ := zbd_some hE
      refine y_invVi (j := 194) (As := [.int (x4 / 4), .int (x4 - x4 / 4 * 4)]) (rest := []) (N := zm194) (F194 K (x4 / 4) (x4 - x4 / 4 * 4) _ r217 g216 hc218 (d + 0)) k225_46 lk_10_256 zm194_get na194 rfl (Nat.le_of_ble_eq_true rfl) sh222 (by decide) rfl ?_
      refine y_istore (ls2 := [some (.ref 222), some (.int x1), some (.int x2), some (.int x3), some (.int x4), some (.int (x4 / 4)), some (.int (x4 - x4 / 4 * 4)), some (.int r217), none, none]) k225_49 rfl (Nat.le_of_ble_eq_true rfl) rfl ?_
      refine y_iload k225_51 rfl ?_
      by_cases c219 : r217 = 0
      · rw [if_pos c219] at hE
        refine y_ifT (tgt := 68) k225_53 (by decide) c219 ?_
        refine y_iconst (v := 0) k225_68 oi_0 ?_
        exact F225_69 K (f225_22 K n) ih x1 x2 x3 x4 (x4 / 4) (x4 - x4 / 4 * 4) r217 0 _ _ _ hE
      · rw [if_neg c219] at hE
        refine y_ifF 68 k225_53 (by decide) c219 ?_
        refine y_aload_n k225_56 rfl rfl ?_
        refine y_getR k225_57 fk_10_35 sh222 rfl ?_
        refine y_iload k225_60 rfl ?_
        obtain ⟨hc, hE⟩ := zif_some hE
        refine y_iald k225_62 ar231 (zinN ln231 hc) ?_
        refine y_iconst (v := 1) k225_63 oi_1 ?_
        refine y_iadd k225_64 ?_
        refine y_goto (tgt := 69) k225_65 (by decide) ?_
        exact F225_69 K (f225_22 K n) ih x1 x2 x3 x4 (x4 / 4) (x4 - x4 / 4 * 4) r217 ((g216 231 (x4 / 4).toNatClampNeg) + 1) _ _ _ hE
theorem F225 {L : Nat} {xs : Nat → Int32} (K : Nat) (x1 : Int32) (g : zS) (r : Int32) (g' : zS) (hE : f225 K x1 g = some (r, g')) (d : Nat) : zE2 L xs (d + 4) 225 [.ref 222, .int x1] g (some (.int r)) g' := by
  refine y_ev (n := 0) (d := d + 3) (ls := [some (.ref 222), some (.int x1), none, none, none, none, none, none, none, none]) zm225_get (by decide) (Nat.le_of_ble_eq_true rfl) rfl ?_
  unfold f225 at hE
  refine y_iload_n k225_0 rfl ?_
  refine y_i2l k225_1 ?_
  refine y_lconst (v := 0) k225_2 rfl ?_
  refine y_ldc2 (v := 2) k225_3 cl_10_311 ?_
  obtain ⟨r222, g221, hc223, hE⟩ := zbd_some hE
  refine y_invSi (j := 146) (As := [.long x1.toInt64, .long 0, .long 2]) (rest := []) (N := zm146) (F146 K x1.toInt64 0 2 _ r222 g221 hc223 (d + 2)) k225_6 lk_10_65 zm146_get na146 rfl (Nat.le_of_ble_eq_true rfl) ?_
  by_cases c224 : ¬ r222 = 0
  · rw [if_pos c224] at hE
    refine y_ifT (tgt := 15) k225_9 (by decide) c224 ?_
    refine y_iconst (v := 0) k225_15 oi_0 ?_
    refine y_istore_n (ls2 := [some (.ref 222), some (.int x1), some (.int 0), none, none, none, none, none, none, none]) k225_16 rfl (Nat.le_of_ble_eq_true rfl) rfl ?_
    refine y_iconst (v := (-1)) k225_17 oi_m1 ?_
    refine y_istore_n (ls2 := [some (.ref 222), some (.int x1), some (.int 0), some (.int (-1)), none, none, none, none, none, none]) k225_18 rfl (Nat.le_of_ble_eq_true rfl) rfl ?_
    refine y_iconst (v := 0) k225_19 oi_0 ?_
    refine y_istore (ls2 := [some (.ref 222), some (.int x1), some (.int 0), some (.int (-1)), some (.int 0), none, none, none, none, none]) k225_20 rfl (Nat.le_of_ble_eq_true rfl) rfl ?_
    exact F225_22 K K x1 0 (-1) 0 _ _ _ hE
  · rw [if_neg c224] at hE
    refine y_ifF 15 k225_9 (by decide) c224 ?_
    refine y_bipush (v := (-3)) k225_12 b8_m3 ?_
    obtain ⟨rfl, rfl⟩ := zpr hE
    exact y_iret k225_14 rfl
-- AdjectiveCouponsModel.readsClause
def f151_145 (K : Nat) (x1 : Int32) (xs1 : Int32) (g : zS) : Option (Int32 × zS) := if ¬ x1 = 0 then if ¬ x1 = 6 then some (1, (zup (zup (zup g 222 27 xs1) 222 26 ((zup g 222 27 xs1) 222 26)) 222 6 (((zup (zup g 222 27 xs1) 222 26 ((zup g 222 27 xs1) 222 26)) 222 6) + 1))) else (some (1, (zup (zup (zup g 222 27 xs1) 222 26 (((zup g 222 27 xs1) 222 26) + 1)) 222 6 (((zup (zup g 222 27 xs1) 222 26 (((zup g 222 27 xs1) 222 26) + 1)) 222 6) + 1)))) else (some (1, (zup (zup (zup g 222 27 xs1) 222 26 0) 222 6 (((zup (zup g 222 27 xs1) 222 26 0) 222 6) + 1))))
def f151_113 (K : Nat) (x1 : Int32) (xs1 : Int32) (g : zS) : Option (Int32 × zS) := if ¬ x1 = 0 then zbd (f157 K x1 (zup g 222 25 xs1)) fun r256 g255 => if r256 = 0 then f151_145 K x1 (g255 222 27) g255 else (f151_145 K x1 ((g255 222 27) + 1) g255) else (f151_145 K x1 0 (zup g 222 25 xs1))
def f151_58 (K : Nat) (x1 : Int32) (g : zS) : Option (Int32 × zS) := zbd (f149 K  g) fun _ g260 => if zin (4 * (g260 222 6)) 56 then zbd (f158 K x1 (zup g260 226 (4 * (g260 222 6)).toNatClampNeg x1)) fun r264 g263 => if ¬ r264 = 0 then if ¬ x1 = 0 then zbd (f156 K x1 g263) fun r267 g266 => if r267 = 0 then f151_113 K x1 (g266 222 25) g266 else (f151_113 K x1 ((g266 222 25) + 1) g266) else (f151_113 K x1 0 g263) else (some (0, g263)) else none
def f151_41 (K : Nat) (x1 : Int32) (g : zS) : Option (Int32 × zS) := if ¬ x1 = 6 then f151_58 K x1 g else if ¬ (g 222 26) = 6 then f151_58 K x1 g else (some (0, g))
def f151_26 (K : Nat) (x1 : Int32) (g : zS) : Option (Int32 × zS) := zbd (f157 K x1 g) fun r275 g274 => if r275 = 0 then f151_41 K x1 g274 else if (g274 222 27) = 4 then some (0, g274) else (f151_41 K x1 g274)
def f151 (K : Nat) (g : zS) : Option (Int32 × zS) := zbd (f152 K  g) fun r280 g279 => if r280 = (-1) then some (0, g279) else (zbd (f156 K r280 g279) fun r283 g282 => if r283 = 0 then f151_26 K r280 g282 else if (g282 222 25) = 10 then some (0, g282) else (f151_26 K r280 g282))
theorem F151_145 {L : Nat} {xs : Nat → Int32} {d : Nat} (K : Nat) (x1 : Int32) (xs1 : Int32) (g : zS) (r : Int32) (g' : zS) (hE : f151_145 K x1 xs1 g = some (r, g')) : zG2 L xs (d + 4) zm151 145 [some (.ref 222), some (.int x1)] [.int xs1, .ref 222] g (some (.int r)) g' := by
  unfold f151_145 at hE
  refine y_putI k151_145 fk_10_140 sh222 rfl pi_10_27.1 pi_10_27.2 ?_
  refine y_aload_n k151_148 rfl rfl ?_
  refine y_iload_n k151_149 rfl ?_
  by_cases c254 : ¬ x1 = 0
  · rw [if_pos c254] at hE
    refine y_ifT (tgt := 157) k151_150 (by decide) c254 ?_
    refine y_iload_n k151_157 rfl ?_
    refine y_bipush (v := 6) k151_158 b8_6 ?_
    by_cases c253 : ¬ x1 = 6
    · rw [if_pos c253] at hE
      refine y_icT (tgt := 172) k151_160 (by decide) c253 ?_
      refine y_aload_n k151_172 rfl rfl ?_
      refine y_getI k151_173 fk_10_143 sh222 rfl ?_
      refine y_putI k151_176 fk_10_143 sh222 rfl pi_10_26.1 pi_10_26.2 ?_
      refine y_aload_n k151_179 rfl rfl ?_
      refine y_dup k151_180 rfl ?_
      refine y_getI k151_181 fk_10_112 sh222 rfl ?_
      refine y_iconst (v := 1) k151_184 oi_1 ?_
      refine y_iadd k151_185 ?_
      refine y_putI k151_186 fk_10_112 sh222 rfl pi_10_6.1 pi_10_6.2 ?_
      refine y_iconst (v := 1) k151_189 oi_1 ?_
      obtain ⟨rfl, rfl⟩ := zpr hE
      exact y_zret k151_190 rfl (by decide)
    · rw [if_neg c253] at hE
      refine y_icF 172 k151_160 (by decide) c253 ?_
      refine y_aload_n k151_163 rfl rfl ?_
      refine y_getI k151_164 fk_10_143 sh222 rfl ?_
      refine y_iconst (v := 1) k151_167 oi_1 ?_
      refine y_iadd k151_168 ?_
      refine y_goto (tgt := 176) k151_169 (by decide) ?_
      refine y_putI k151_176 fk_10_143 sh222 rfl pi_10_26.1 pi_10_26.2 ?_
      refine y_aload_n k151_179 rfl rfl ?_
      refine y_dup k151_180 rfl ?_
      refine y_getI k151_181 fk_10_112 sh222 rfl ?_
      refine y_iconst (v := 1) k151_184 oi_1 ?_
      refine y_iadd k151_185 ?_
      refine y_putI k151_186 fk_10_112 sh222 rfl pi_10_6.1 pi_10_6.2 ?_
      refine y_iconst (v := 1) k151_189 oi_1 ?_
      obtain ⟨rfl, rfl⟩ := zpr hE
      exact y_zret k151_190 rfl (by decide)
  · rw [if_neg c254] at hE
    refine y_ifF 157 k151_150 (by decide) c254 ?_
    refine y_iconst (v := 0) k151_153 oi_0 ?_
    refine y_goto (tgt := 176) k151_154 (by decide) ?_
    refine y_putI k151_176 fk_10_143 sh222 rfl pi_10_26.1 pi_10_26.2 ?_
    refine y_aload_n k151_179 rfl rfl ?_
    refine y_dup k151_180 rfl ?_
    refine y_getI k151_181 fk_10_112 sh222 rfl ?_
    refine y_iconst (v := 1) k151_184 oi_1 ?_
    refine y_iadd k151_185 ?_
    refine y_putI k151_186 fk_10_112 sh222 rfl pi_10_6.1 pi_10_6.2 ?_
    refine y_iconst (v := 1) k151_189 oi_1 ?_
    obtain ⟨rfl, rfl⟩ := zpr hE
    exact y_zret k151_190 rfl (by decide)
theorem F151_113 {L : Nat} {xs : Nat → Int32} {d : Nat} (K : Nat) (x1 : Int32) (xs1 : Int32) (g : zS) (r : Int32) (g' : zS) (hE : f151_113 K x1 xs1 g = some (r, g')) : zG2 L xs (d + 4) zm151 113 [some (.ref 222), some (.int x1)] [.int xs1, .ref 222] g (some (.int r)) g' := by
  unfold f151_113 at hE
  refine y_putI k151_113 fk_10_134 sh222 rfl pi_10_25.1 pi_10_25.2 ?_
  refine y_aload_n k151_116 rfl rfl ?_
  refine y_iload_n k151_117 rfl ?_
  by_cases c259 : ¬ x1 = 0
  · rw [if_pos c259] at hE
    refine y_ifT (tgt := 125) k151_118 (by decide) c259 ?_
    refine y_iload_n k151_125 rfl ?_
    obtain ⟨r256, g255, hc257, hE⟩ := zbd_some hE
    refine y_invSi (j := 157) (As := [.int x1]) (rest := [.ref 222]) (N := zm157) (F157 K x1 _ r256 g255 hc257 (d + 2)) k151_126 lk_10_131 zm157_get na157 rfl (Nat.le_of_ble_eq_true rfl) ?_
    by_cases c258 : r256 = 0
    · rw [if_pos c258] at hE
      refine y_ifT (tgt := 141) k151_129 (by decide) c258 ?_
      refine y_aload_n k151_141 rfl rfl ?_
      refine y_getI k151_142 fk_10_140 sh222 rfl ?_
      exact F151_145 K x1 (g255 222 27) _ _ _ hE
    · rw [if_neg c258] at hE
      refine y_ifF 141 k151_129 (by decide) c258 ?_
      refine y_aload_n k151_132 rfl rfl ?_
      refine y_getI k151_133 fk_10_140 sh222 rfl ?_
      refine y_iconst (v := 1) k151_136 oi_1 ?_
      refine y_iadd k151_137 ?_
      refine y_goto (tgt := 145) k151_138 (by decide) ?_
      exact F151_145 K x1 ((g255 222 27) + 1) _ _ _ hE
  · rw [if_neg c259] at hE
    refine y_ifF 125 k151_118 (by decide) c259 ?_
    refine y_iconst (v := 0) k151_121 oi_0 ?_
    refine y_goto (tgt := 145) k151_122 (by decide) ?_
    exact F151_145 K x1 0 _ _ _ hE
theorem F151_58 {L : Nat} {xs : Nat → Int32} {d : Nat} (K : Nat) (x1 : Int32) (g : zS) (r : Int32) (g' : zS) (hE : f151_58 K x1 g = some (r, g')) : zG2 L xs (d + 4) zm151 58 [some (.ref 222), some (.int x1)] [] g (some (.int r)) g' := by
  unfold f151_58 at hE
  refine y_aload_n k151_58 rfl rfl ?_
  obtain ⟨u261, g260, hc262, hE⟩ := zbd_some hE
  refine y_invVv (j := 149) (As := []) (rest := []) (N := zm149) (F149 K  _ u261 g260 hc262 (d + 2)) k151_59 lk_10_115 zm149_get na149 rfl (Nat.le_of_ble_eq_true rfl) sh222 (by decide) rfl ?_
  refine y_aload_n k151_62 rfl rfl ?_
  refine y_getR k151_63 fk_10_20 sh222 rfl ?_
  refine y_iconst (v := 4) k151_66 oi_4 ?_
  refine y_aload_n k151_67 rfl rfl ?_
  refine y_getI k151_68 fk_10_112 sh222 rfl ?_
  refine y_imul k151_71 ?_
  refine y_iload_n k151_72 rfl ?_
  obtain ⟨hc, hE⟩ := zif_some hE
  refine y_iast k151_73 ar226 (zinN ln226 hc) ?_
  refine y_aload_n k151_74 rfl rfl ?_
  refine y_iload_n k151_75 rfl ?_
  obtain ⟨r264, g263, hc265, hE⟩ := zbd_some hE
  refine y_invVi (j := 158) (As := [.int x1]) (rest := []) (N := zm158) (F158 K x1 _ r264 g263 hc265 (d + 0)) k151_76 lk_10_146 zm158_get na158 rfl (Nat.le_of_ble_eq_true rfl) sh222 (by decide) rfl ?_
  by_cases c271 : ¬ r264 = 0
  · rw [if_pos c271] at hE
    refine y_ifT (tgt := 84) k151_79 (by decide) c271 ?_
    refine y_aload_n k151_84 rfl rfl ?_
    refine y_iload_n k151_85 rfl ?_
    by_cases c270 : ¬ x1 = 0
    · rw [if_pos c270] at hE
      refine y_ifT (tgt := 93) k151_86 (by decide) c270 ?_
      refine y_iload_n k151_93 rfl ?_
      obtain ⟨r267, g266, hc268, hE⟩ := zbd_some hE
      refine y_invSi (j := 156) (As := [.int x1]) (rest := [.ref 222]) (N := zm156) (F156 K x1 _ r267 g266 hc268 (d + 2)) k151_94 lk_10_124 zm156_get na156 rfl (Nat.le_of_ble_eq_true rfl) ?_
      by_cases c269 : r267 = 0
      · rw [if_pos c269] at hE
        refine y_ifT (tgt := 109) k151_97 (by decide) c269 ?_
        refine y_aload_n k151_109 rfl rfl ?_
        refine y_getI k151_110 fk_10_134 sh222 rfl ?_
        exact F151_113 K x1 (g266 222 25) _ _ _ hE
      · rw [if_neg c269] at hE
        refine y_ifF 109 k151_97 (by decide) c269 ?_
        refine y_aload_n k151_100 rfl rfl ?_
        refine y_getI k151_101 fk_10_134 sh222 rfl ?_
        refine y_iconst (v := 1) k151_104 oi_1 ?_
        refine y_iadd k151_105 ?_
        refine y_goto (tgt := 113) k151_106 (by decide) ?_
        exact F151_113 K x1 ((g266 222 25) + 1) _ _ _ hE
    · rw [if_neg c270] at hE
      refine y_ifF 93 k151_86 (by decide) c270 ?_
      refine y_iconst (v := 0) k151_89 oi_0 ?_
      refine y_goto (tgt := 113) k151_90 (by decide) ?_
      exact F151_113 K x1 0 _ _ _ hE
  · rw [if_neg c271] at hE
    refine y_ifF 84 k151_79 (by decide) c271 ?_
    refine y_iconst (v := 0) k151_82 oi_0 ?_
    obtain ⟨rfl, rfl⟩ := zpr hE
    exact y_zret k151_83 rfl (by decide)
theorem F151_41 {L : Nat} {xs : Nat → Int32} {d : Nat} (K : Nat) (x1 : Int32) (g : zS) (r : Int32) (g' : zS) (hE : f151_41 K x1 g = some (r, g')) : zG2 L xs (d + 4) zm151 41 [some (.ref 222), some (.int x1)] [] g (some (.int r)) g' := by
  unfold f151_41 at hE
  refine y_iload_n k151_41 rfl ?_
  refine y_bipush (v := 6) k151_42 b8_6 ?_
  by_cases c273 : ¬ x1 = 6
  · rw [if_pos c273] at hE
    refine y_icT (tgt := 58) k151_44 (by decide) c273 ?_
    exact F151_58 K x1 _ _ _ hE
  · rw [if_neg c273] at hE
    refine y_icF 58 k151_44 (by decide) c273 ?_
    refine y_aload_n k151_47 rfl rfl ?_
    refine y_getI k151_48 fk_10_143 sh222 rfl ?_
    refine y_bipush (v := 6) k151_51 b8_6 ?_
    by_cases c272 : ¬ (g 222 26) = 6
    · rw [if_pos c272] at hE
      refine y_icT (tgt := 58) k151_53 (by decide) c272 ?_
      exact F151_58 K x1 _ _ _ hE
    · rw [if_neg c272] at hE
      refine y_icF 58 k151_53 (by decide) c272 ?_
      refine y_iconst (v := 0) k151_56 oi_0 ?_
      obtain ⟨rfl, rfl⟩ := zpr hE
      exact y_zret k151_57 rfl (by decide)
theorem F151_26 {L : Nat} {xs : Nat → Int32} {d : Nat} (K : Nat) (x1 : Int32) (g : zS) (r : Int32) (g' : zS) (hE : f151_26 K x1 g = some (r, g')) : zG2 L xs (d + 4) zm151 26 [some (.ref 222), some (.int x1)] [] g (some (.int r)) g' := by
  unfold f151_26 at hE
  refine y_iload_n k151_26 rfl ?_
  obtain ⟨r275, g274, hc276, hE⟩ := zbd_some hE
  refine y_invSi (j := 157) (As := [.int x1]) (rest := []) (N := zm157) (F157 K x1 _ r275 g274 hc276 (d + 2)) k151_27 lk_10_131 zm157_get na157 rfl (Nat.le_of_ble_eq_true rfl) ?_
  by_cases c278 : r275 = 0
  · rw [if_pos c278] at hE
    refine y_ifT (tgt := 41) k151_30 (by decide) c278 ?_
    exact F151_41 K x1 _ _ _ hE
  · rw [if_neg c278] at hE
    refine y_ifF 41 k151_30 (by decide) c278 ?_
    refine y_aload_n k151_33 rfl rfl ?_
    refine y_getI k151_34 fk_10_140 sh222 rfl ?_
    refine y_iconst (v := 4) k151_37 oi_4 ?_
    by_cases c277 : (g274 222 27) = 4
    · rw [if_pos c277] at hE
      refine y_icT (tgt := 56) k151_38 (by decide) c277 ?_
      refine y_iconst (v := 0) k151_56 oi_0 ?_
      obtain ⟨rfl, rfl⟩ := zpr hE
      exact y_zret k151_57 rfl (by decide)
    · rw [if_neg c277] at hE
      refine y_icF 56 k151_38 (by decide) c277 ?_
      exact F151_41 K x1 _ _ _ hE
theorem F151 {L : Nat} {xs : Nat → Int32} (K : Nat) (g : zS) (r : Int32) (g' : zS) (hE : f151 K  g = some (r, g')) (d : Nat) : zE2 L xs (d + 5) 151 [.ref 222] g (some (.int r)) g' := by
  refine y_ev (n := 0) (d := d + 4) (ls := [some (.ref 222), none]) zm151_get (by decide) (Nat.le_of_ble_eq_true rfl) rfl ?_
  unfold f151 at hE
  refine y_aload_n k151_0 rfl rfl ?_
  obtain ⟨r280, g279, hc281, hE⟩ := zbd_some hE
  refine y_invVi (j := 152) (As := []) (rest := []) (N := zm152) (F152 K  _ r280 g279 hc281 (d + 1)) k151_1 lk_10_137 zm152_get na152 rfl (Nat.le_of_ble_eq_true rfl) sh222 (by decide) rfl ?_
  refine y_istore_n (ls2 := [some (.ref 222), some (.int r280)]) k151_4 rfl (Nat.le_of_ble_eq_true rfl) rfl ?_
  refine y_iload_n k151_5 rfl ?_
  refine y_iconst (v := (-1)) k151_6 oi_m1 ?_
  by_cases c287 : r280 = (-1)
  · rw [if_pos c287] at hE
    refine y_icT (tgt := 56) k151_7 (by decide) c287 ?_
    refine y_iconst (v := 0) k151_56 oi_0 ?_
    obtain ⟨rfl, rfl⟩ := zpr hE
    exact y_zret k151_57 rfl (by decide)
  · rw [if_neg c287] at hE
    refine y_icF 56 k151_7 (by decide) c287 ?_
    refine y_iload_n k151_10 rfl ?_
    obtain ⟨r283, g282, hc284, hE⟩ := zbd_some hE
    refine y_invSi (j := 156) (As := [.int r280]) (rest := []) (N := zm156) (F156 K r280 _ r283 g282 hc284 (d + 2)) k151_11 lk_10_124 zm156_get na156 rfl (Nat.le_of_ble_eq_true rfl) ?_
    by_cases c286 : r283 = 0
    · rw [if_pos c286] at hE
      refine y_ifT (tgt := 26) k151_14 (by decide) c286 ?_
      exact F151_26 K r280 _ _ _ hE
    · rw [if_neg c286] at hE
      refine y_ifF 26 k151_14 (by decide) c286 ?_
      refine y_aload_n k151_17 rfl rfl ?_
      refine y_getI k151_18 fk_10_134 sh222 rfl ?_
      refine y_bipush (v := 10) k151_21 b8_10 ?_
      by_cases c285 : (g282 222 25) = 10
      · rw [if_pos c285] at hE
        refine y_icT (tgt := 56) k151_23 (by decide) c285 ?_
        refine y_iconst (v := 0) k151_56 oi_0 ?_
        obtain ⟨rfl, rfl⟩ := zpr hE
        exact y_zret k151_57 rfl (by decide)
      · rw [if_neg c285] at hE
        refine y_icF 56 k151_23 (by decide) c285 ?_
        exact F151_26 K r280 _ _ _ hE
-- AdjectiveCouponsModel.as
def f172_82 (K : Nat) (x3 : Int32) (xs0 : Int32) (g : zS) : Option (Int32 × zS) := zbd (f173 K  g) fun _ g197 => if xs0 = 0 then some ((-4), g197) else if zin (0 : Int32) 803 then zbd (f174 K x3 (g197 223 (0 : Int32).toNatClampNeg) g197) fun r201 g200 => some (r201, g200) else none
def f172_81 (K : Nat) (x3 : Int32) (g : zS) : Option (Int32 × zS) := f172_82 K x3 0 g
def f172_77 (K : Nat) (x3 : Int32) (g : zS) : Option (Int32 × zS) := f172_82 K x3 1 g
def f172_67 (K : Nat) (x2 : Int32) (x3 : Int32) (g : zS) : Option (Int32 × zS) := if ¬ x2 = 4 then f172_81 K x3 g else if ¬ x3 = 3 then f172_81 K x3 g else (f172_77 K x3 g)
def f172_57 (K : Nat) (x2 : Int32) (x3 : Int32) (g : zS) : Option (Int32 × zS) := if ¬ x2 = 3 then f172_67 K x2 x3 g else if 2 ≤ x3 then f172_77 K x3 g else (f172_67 K x2 x3 g)
def f172_47 (K : Nat) (x2 : Int32) (x3 : Int32) (g : zS) : Option (Int32 × zS) := if ¬ x2 = 2 then f172_57 K x2 x3 g else if x3 = 1 then f172_77 K x3 g else (f172_57 K x2 x3 g)
def f172 (K : Nat) (x1 : Int32) (x2 : Int32) (g : zS) : Option (Int32 × zS) := zbd (f170 K x1 g) fun r211 g210 => if ¬ r211 = 0 then zbd (f146 K x2.toInt64 0 4 g210) fun r214 g213 => if ¬ r214 = 0 then if zin x1 4 then if x2 = 0 then f172_77 K (g213 230 x1.toNatClampNeg) g213 else if ¬ x2 = 1 then f172_47 K x2 (g213 230 x1.toNatClampNeg) g213 else if (g213 230 x1.toNatClampNeg) < 2 then f172_77 K (g213 230 x1.toNatClampNeg) g213 else (f172_47 K x2 (g213 230 x1.toNatClampNeg) g213) else none else (some ((-3), g213)) else (some ((-2), g210))
theorem F172_82 {L : Nat} {xs : Nat → Int32} {d : Nat} (K : Nat) (x3 : Int32) (xs0 : Int32) (g : zS) (r : Int32) (g' : zS) (hE : f172_82 K x3 xs0 g = some (r, g')) : zG2 L xs (d + 4) zm172 82 [some (.ref 222), none, none, some (.int x3), none] [.int xs0] g (some (.int r)) g' := by
  unfold f172_82 at hE
  refine y_istore (ls2 := [some (.ref 222), none, none, some (.int x3), some (.int xs0)]) k172_82 rfl (Nat.le_of_ble_eq_true rfl) rfl ?_
  refine y_aload_n k172_84 rfl rfl ?_
  obtain ⟨u198, g197, hc199, hE⟩ := zbd_some hE
  refine y_invVv (j := 173) (As := []) (rest := []) (N := zm173) (F173 K  _ u198 g197 hc199 (d + 3)) k172_85 lk_10_236 zm173_get na173 rfl (Nat.le_of_ble_eq_true rfl) sh222 (by decide) rfl ?_
  refine y_iload k172_88 rfl ?_
  by_cases c203 : xs0 = 0
  · rw [if_pos c203] at hE
    refine y_ifT (tgt := 107) k172_90 (by decide) c203 ?_
    refine y_bipush (v := (-4)) k172_107 b8_m4 ?_
    obtain ⟨rfl, rfl⟩ := zpr hE
    exact y_iret k172_109 rfl
  · rw [if_neg c203] at hE
    refine y_ifF 107 k172_90 (by decide) c203 ?_
    refine y_aload_n k172_93 rfl rfl ?_
    refine y_iload_n k172_94 rfl ?_
    refine y_aload_n k172_95 rfl rfl ?_
    refine y_getR k172_96 fk_10_7 sh222 rfl ?_
    refine y_iconst (v := 0) k172_99 oi_0 ?_
    obtain ⟨hc, hE⟩ := zif_some hE
    refine y_iald k172_100 ar223 (zinN ln223 hc) ?_
    obtain ⟨r201, g200, hc202, hE⟩ := zbd_some hE
    refine y_invVi (j := 174) (As := [.int x3, .int (g197 223 (0 : Int32).toNatClampNeg)]) (rest := []) (N := zm174) (F174 K x3 (g197 223 (0 : Int32).toNatClampNeg) _ r201 g200 hc202 (d + 0)) k172_101 lk_10_219 zm174_get na174 rfl (Nat.le_of_ble_eq_true rfl) sh222 (by decide) rfl ?_
    refine y_goto (tgt := 109) k172_104 (by decide) ?_
    obtain ⟨rfl, rfl⟩ := zpr hE
    exact y_iret k172_109 rfl
theorem F172_81 {L : Nat} {xs : Nat → Int32} {d : Nat} (K : Nat) (x3 : Int32) (g : zS) (r : Int32) (g' : zS) (hE : f172_81 K x3 g = some (r, g')) : zG2 L xs (d + 4) zm172 81 [some (.ref 222), none, none, some (.int x3), none] [] g (some (.int r)) g' := by
  unfold f172_81 at hE
  refine y_iconst (v := 0) k172_81 oi_0 ?_
  exact F172_82 K x3 0 _ _ _ hE
theorem F172_77 {L : Nat} {xs : Nat → Int32} {d : Nat} (K : Nat) (x3 : Int32) (g : zS) (r : Int32) (g' : zS) (hE : f172_77 K x3 g = some (r, g')) : zG2 L xs (d + 4) zm172 77 [some (.ref 222), none, none, some (.int x3), none] [] g (some (.int r)) g' := by
  unfold f172_77 at hE
  refine y_iconst (v := 1) k172_77 oi_1 ?_
  refine y_goto (tgt := 82) k172_78 (by decide) ?_
  exact F172_82 K x3 1 _ _ _ hE
theorem F172_67 {L : Nat} {xs : Nat → Int32} {d : Nat} (K : Nat) (x2 : Int32) (x3 : Int32) (g : zS) (r : Int32) (g' : zS) (hE : f172_67 K x2 x3 g = some (r, g')) : zG2 L xs (d + 4) zm172 67 [some (.ref 222), none, some (.int x2), some (.int x3), none] [] g (some (.int r)) g' := by
  unfold f172_67 at hE
  refine y_iload_n k172_67 rfl ?_
  refine y_iconst (v := 4) k172_68 oi_4 ?_
  by_cases c205 : ¬ x2 = 4
  · rw [if_pos c205] at hE
    refine y_icT (tgt := 81) k172_69 (by decide) c205 ?_
    exact y_weak (ls0 := [some (.ref 222), none, none, some (.int x3), none]) ⟨rfl, rfl, rfl, rfl, rfl, trivial⟩ (F172_81 K x3 _ _ _ hE)
  · rw [if_neg c205] at hE
    refine y_icF 81 k172_69 (by decide) c205 ?_
    refine y_iload_n k172_72 rfl ?_
    refine y_iconst (v := 3) k172_73 oi_3 ?_
    by_cases c204 : ¬ x3 = 3
    · rw [if_pos c204] at hE
      refine y_icT (tgt := 81) k172_74 (by decide) c204 ?_
      exact y_weak (ls0 := [some (.ref 222), none, none, some (.int x3), none]) ⟨rfl, rfl, rfl, rfl, rfl, trivial⟩ (F172_81 K x3 _ _ _ hE)
    · rw [if_neg c204] at hE
      refine y_icF 81 k172_74 (by decide) c204 ?_
      exact y_weak (ls0 := [some (.ref 222), none, none, some (.int x3), none]) ⟨rfl, rfl, rfl, rfl, rfl, trivial⟩ (F172_77 K x3 _ _ _ hE)
theorem F172_57 {L : Nat} {xs : Nat → Int32} {d : Nat} (K : Nat) (x2 : Int32) (x3 : Int32) (g : zS) (r : Int32) (g' : zS) (hE : f172_57 K x2 x3 g = some (r, g')) : zG2 L xs (d + 4) zm172 57 [some (.ref 222), none, some (.int x2), some (.int x3), none] [] g (some (.int r)) g' := by
  unfold f172_57 at hE
  refine y_iload_n k172_57 rfl ?_
  refine y_iconst (v := 3) k172_58 oi_3 ?_
  by_cases c207 : ¬ x2 = 3
  · rw [if_pos c207] at hE
    refine y_icT (tgt := 67) k172_59 (by decide) c207 ?_
    exact F172_67 K x2 x3 _ _ _ hE
  · rw [if_neg c207] at hE
    refine y_icF 67 k172_59 (by decide) c207 ?_
    refine y_iload_n k172_62 rfl ?_
    refine y_iconst (v := 2) k172_63 oi_2 ?_
    by_cases c206 : 2 ≤ x3
    · rw [if_pos c206] at hE
      refine y_icT (tgt := 77) k172_64 (by decide) c206 ?_
      exact y_weak (ls0 := [some (.ref 222), none, none, some (.int x3), none]) ⟨rfl, rfl, rfl, rfl, rfl, trivial⟩ (F172_77 K x3 _ _ _ hE)
    · rw [if_neg c206] at hE
      refine y_icF 77 k172_64 (by decide) c206 ?_
      exact F172_67 K x2 x3 _ _ _ hE
theorem F172_47 {L : Nat} {xs : Nat → Int32} {d : Nat} (K : Nat) (x2 : Int32) (x3 : Int32) (g : zS) (r : Int32) (g' : zS) (hE : f172_47 K x2 x3 g = some (r, g')) : zG2 L xs (d + 4) zm172 47 [some (.ref 222), none, some (.int x2), some (.int x3), none] [] g (some (.int r)) g' := by
  unfold f172_47 at hE
  refine y_iload_n k172_47 rfl ?_
  refine y_iconst (v := 2) k172_48 oi_2 ?_
  by_cases c209 : ¬ x2 = 2
  · rw [if_pos c209] at hE
    refine y_icT (tgt := 57) k172_49 (by decide) c209 ?_
    exact F172_57 K x2 x3 _ _ _ hE
  · rw [if_neg c209] at hE
    refine y_icF 57 k172_49 (by decide) c209 ?_
    refine y_iload_n k172_52 rfl ?_
    refine y_iconst (v := 1) k172_53 oi_1 ?_
    by_cases c208 : x3 = 1
    · rw [if_pos c208] at hE
      refine y_icT (tgt := 77) k172_54 (by decide) c208 ?_
      exact y_weak (ls0 := [some (.ref 222), none, none, some (.int x3), none]) ⟨rfl, rfl, rfl, rfl, rfl, trivial⟩ (F172_77 K x3 _ _ _ hE)
    · rw [if_neg c208] at hE
      refine y_icF 77 k172_54 (by decide) c208 ?_
      exact F172_57 K x2 x3 _ _ _ hE
theorem F172 {L : Nat} {xs : Nat → Int32} (K : Nat) (x1 : Int32) (x2 : Int32) (g : zS) (r : Int32) (g' : zS) (hE : f172 K x1 x2 g = some (r, g')) (d : Nat) : zE2 L xs (d + 5) 172 [.ref 222, .int x1, .int x2] g (some (.int r)) g' := by
  refine y_ev (n := 0) (d := d + 4) (ls := [some (.ref 222), some (.int x1), some (.int x2), none, none]) zm172_get (by decide) (Nat.le_of_ble_eq_true rfl) rfl ?_
  unfold f172 at hE
  refine y_aload_n k172_0 rfl rfl ?_
  refine y_iload_n k172_1 rfl ?_
  obtain ⟨r211, g210, hc212, hE⟩ := zbd_some hE
  refine y_invVi (j := 170) (As := [.int x1]) (rest := []) (N := zm170) (F170 K x1 _ r211 g210 hc212 (d + 2)) k172_2 lk_10_228 zm170_get na170 rfl (Nat.le_of_ble_eq_true rfl) sh222 (by decide) rfl ?_
  by_cases c220 : ¬ r211 = 0
  · rw [if_pos c220] at hE
    refine y_ifT (tgt := 11) k172_5 (by decide) c220 ?_
    refine y_iload_n k172_11 rfl ?_
    refine y_i2l k172_12 ?_
    refine y_lconst (v := 0) k172_13 rfl ?_
    refine y_ldc2 (v := 4) k172_14 cl_10_234 ?_
    obtain ⟨r214, g213, hc215, hE⟩ := zbd_some hE
    refine y_invSi (j := 146) (As := [.long x2.toInt64, .long 0, .long 4]) (rest := []) (N := zm146) (F146 K x2.toInt64 0 4 _ r214 g213 hc215 (d + 3)) k172_17 lk_10_65 zm146_get na146 rfl (Nat.le_of_ble_eq_true rfl) ?_
    by_cases c219 : ¬ r214 = 0
    · rw [if_pos c219] at hE
      refine y_ifT (tgt := 26) k172_20 (by decide) c219 ?_
      refine y_aload_n k172_26 rfl rfl ?_
      refine y_getR k172_27 fk_10_32 sh222 rfl ?_
      refine y_iload_n k172_30 rfl ?_
      obtain ⟨hc, hE⟩ := zif_some hE
      refine y_iald k172_31 ar230 (zinN ln230 hc) ?_
      refine y_istore_n (ls2 := [some (.ref 222), some (.int x1), some (.int x2), some (.int (g213 230 x1.toNatClampNeg)), none]) k172_32 rfl (Nat.le_of_ble_eq_true rfl) rfl ?_
      refine y_iload_n k172_33 rfl ?_
      by_cases c218 : x2 = 0
      · rw [if_pos c218] at hE
        refine y_ifT (tgt := 77) k172_34 (by decide) c218 ?_
        exact y_weak (ls0 := [some (.ref 222), none, none, some (.int (g213 230 x1.toNatClampNeg)), none]) ⟨rfl, rfl, rfl, rfl, rfl, trivial⟩ (F172_77 K (g213 230 x1.toNatClampNeg) _ _ _ hE)
      · rw [if_neg c218] at hE
        refine y_ifF 77 k172_34 (by decide) c218 ?_
        refine y_iload_n k172_37 rfl ?_
        refine y_iconst (v := 1) k172_38 oi_1 ?_
        by_cases c217 : ¬ x2 = 1
        · rw [if_pos c217] at hE
          refine y_icT (tgt := 47) k172_39 (by decide) c217 ?_
          exact y_weak (ls0 := [some (.ref 222), none, some (.int x2), some (.int (g213 230 x1.toNatClampNeg)), none]) ⟨rfl, rfl, rfl, rfl, rfl, trivial⟩ (F172_47 K x2 (g213 230 x1.toNatClampNeg) _ _ _ hE)
        · rw [if_neg c217] at hE
          refine y_icF 47 k172_39 (by decide) c217 ?_
          refine y_iload_n k172_42 rfl ?_
          refine y_iconst (v := 2) k172_43 oi_2 ?_
          by_cases c216 : (g213 230 x1.toNatClampNeg) < 2
          · rw [if_pos c216] at hE
            refine y_icT (tgt := 77) k172_44 (by decide) c216 ?_
            exact y_weak (ls0 := [some (.ref 222), none, none, some (.int (g213 230 x1.toNatClampNeg)), none]) ⟨rfl, rfl, rfl, rfl, rfl, trivial⟩ (F172_77 K (g213 230 x1.toNatClampNeg) _ _ _ hE)
          · rw [if_neg c216] at hE
            refine y_icF 77 k172_44 (by decide) c216 ?_
            exact y_weak (ls0 := [some (.ref 222), none, some (.int x2), some (.int (g213 230 x1.toNatClampNeg)), none]) ⟨rfl, rfl, rfl, rfl, rfl, trivial⟩ (F172_47 K x2 (g213 230 x1.toNatClampNeg) _ _ _ hE)
    · rw [if_neg c219] at hE
      refine y_ifF 26 k172_20 (by decide) c219 ?_
      refine y_bipush (v := (-3)) k172_23 b8_m3 ?_
      obtain ⟨rfl, rfl⟩ := zpr hE
      exact y_iret k172_25 rfl
  · rw [if_neg c220] at hE
    refine y_ifF 11 k172_5 (by decide) c220 ?_
    refine y_bipush (v := (-2)) k172_8 b8_m2 ?_
    obtain ⟨rfl, rfl⟩ := zpr hE
    exact y_iret k172_10 rfl
-- AdjectiveCouponsModel.cost
def f183 (K : Nat) (x1 : Int32) (x2 : Int32) (g : zS) : Option (Int32 × zS) := zbd (f170 K x1 g) fun r116 g115 => if ¬ r116 = 0 then zbd (f173 K  g115) fun _ g118 => zbd (f146 K x2.toInt64 0 999 g118) fun r122 g121 => if r122 = 0 then some ((-3), g121) else if zin x1 4 then zbd (f174 K (g121 230 x1.toNatClampNeg) x2 g121) fun r125 g124 => some (r125, g124) else none else (some ((-2), g115))
theorem F183 {L : Nat} {xs : Nat → Int32} (K : Nat) (x1 : Int32) (x2 : Int32) (g : zS) (r : Int32) (g' : zS) (hE : f183 K x1 x2 g = some (r, g')) (d : Nat) : zE2 L xs (d + 5) 183 [.ref 222, .int x1, .int x2] g (some (.int r)) g' := by
  refine y_ev (n := 0) (d := d + 4) (ls := [some (.ref 222), some (.int x1), some (.int x2)]) zm183_get (by decide) (Nat.le_of_ble_eq_true rfl) rfl ?_
  unfold f183 at hE
  refine y_aload_n k183_0 rfl rfl ?_
  refine y_iload_n k183_1 rfl ?_
  obtain ⟨r116, g115, hc117, hE⟩ := zbd_some hE
  refine y_invVi (j := 170) (As := [.int x1]) (rest := []) (N := zm170) (F170 K x1 _ r116 g115 hc117 (d + 2)) k183_2 lk_10_228 zm170_get na170 rfl (Nat.le_of_ble_eq_true rfl) sh222 (by decide) rfl ?_
  by_cases c128 : ¬ r116 = 0
  · rw [if_pos c128] at hE
    refine y_ifT (tgt := 11) k183_5 (by decide) c128 ?_
    refine y_aload_n k183_11 rfl rfl ?_
    obtain ⟨u119, g118, hc120, hE⟩ := zbd_some hE
    refine y_invVv (j := 173) (As := []) (rest := []) (N := zm173) (F173 K  _ u119 g118 hc120 (d + 3)) k183_12 lk_10_236 zm173_get na173 rfl (Nat.le_of_ble_eq_true rfl) sh222 (by decide) rfl ?_
    refine y_iload_n k183_15 rfl ?_
    refine y_i2l k183_16 ?_
    refine y_lconst (v := 0) k183_17 rfl ?_
    refine y_ldc2 (v := 999) k183_18 cl_10_239 ?_
    obtain ⟨r122, g121, hc123, hE⟩ := zbd_some hE
    refine y_invSi (j := 146) (As := [.long x2.toInt64, .long 0, .long 999]) (rest := []) (N := zm146) (F146 K x2.toInt64 0 999 _ r122 g121 hc123 (d + 3)) k183_21 lk_10_65 zm146_get na146 rfl (Nat.le_of_ble_eq_true rfl) ?_
    by_cases c127 : r122 = 0
    · rw [if_pos c127] at hE
      refine y_ifT (tgt := 41) k183_24 (by decide) c127 ?_
      refine y_bipush (v := (-3)) k183_41 b8_m3 ?_
      obtain ⟨rfl, rfl⟩ := zpr hE
      exact y_iret k183_43 rfl
    · rw [if_neg c127] at hE
      refine y_ifF 41 k183_24 (by decide) c127 ?_
      refine y_aload_n k183_27 rfl rfl ?_
      refine y_aload_n k183_28 rfl rfl ?_
      refine y_getR k183_29 fk_10_32 sh222 rfl ?_
      refine y_iload_n k183_32 rfl ?_
      obtain ⟨hc, hE⟩ := zif_some hE
      refine y_iald k183_33 ar230 (zinN ln230 hc) ?_
      refine y_iload_n k183_34 rfl ?_
      obtain ⟨r125, g124, hc126, hE⟩ := zbd_some hE
      refine y_invVi (j := 174) (As := [.int (g121 230 x1.toNatClampNeg), .int x2]) (rest := []) (N := zm174) (F174 K (g121 230 x1.toNatClampNeg) x2 _ r125 g124 hc126 (d + 0)) k183_35 lk_10_219 zm174_get na174 rfl (Nat.le_of_ble_eq_true rfl) sh222 (by decide) rfl ?_
      refine y_goto (tgt := 43) k183_38 (by decide) ?_
      obtain ⟨rfl, rfl⟩ := zpr hE
      exact y_iret k183_43 rfl
  · rw [if_neg c128] at hE
    refine y_ifF 11 k183_5 (by decide) c128 ?_
    refine y_bipush (v := (-2)) k183_8 b8_m2 ?_
    obtain ⟨rfl, rfl⟩ := zpr hE
    exact y_iret k183_10 rfl
-- AdjectiveCouponsModel.say
def f187_119 (K : Nat) : Nat → Int32 → Int32 → zS → Option (Int32 × zS)
  | 0, _, _, _ => none
  | n + 1, x1, x3, g => if (g 222 29) ≤ x3 then some (1, g) else if zin x3 8 then if zin ((17 + (10 * x1)) + (g 235 x3.toNatClampNeg)) 803 then if zin ((17 + (10 * x1)) + (g 235 x3.toNatClampNeg)) 803 then (f187_119 K n) x1 (x3 + 1) (zup g 223 ((17 + (10 * x1)) + (g 235 x3.toNatClampNeg)).toNatClampNeg ((g 223 ((17 + (10 * x1)) + (g 235 x3.toNatClampNeg)).toNatClampNeg) + 1)) else none else none else none
def f187 (K : Nat) (x1 : Int32) (g : zS) : Option (Int32 × zS) := zbd (f170 K x1 g) fun r150 g149 => if ¬ r150 = 0 then zbd (f173 K  g149) fun _ g152 => if (g152 222 29) = 0 then some ((-4), g152) else (zbd (f186 K  g152) fun r156 g155 => if r156 = 0 then zbd (f188 K  g155) fun _ g158 => if zin x1 4 then if zin (0 : Int32) 803 then zbd (f174 K (g158 230 x1.toNatClampNeg) (g158 223 (0 : Int32).toNatClampNeg) g158) fun r162 g161 => if zin (1 + x1) 803 then if r162 ≤ (g161 223 (1 + x1).toNatClampNeg) then if zin (1 + x1) 803 then if zin (1 + x1) 803 then if zin (13 + x1) 803 then zbd (f190 K  (zup g161 223 (1 + x1).toNatClampNeg ((g161 223 (1 + x1).toNatClampNeg) - r162))) fun r165 g164 => if zin (13 + x1) 803 then f187_119 K K x1 0 (zup g164 223 (13 + x1).toNatClampNeg (((zup g161 223 (1 + x1).toNatClampNeg ((g161 223 (1 + x1).toNatClampNeg) - r162)) 223 (13 + x1).toNatClampNeg) + r165)) else none else none else none else none else if zin (9 + x1) 803 then if zin (9 + x1) 803 then if zin (1 + x1) 803 then some (0, (zup (zup g161 223 (9 + x1).toNatClampNeg ((g161 223 (9 + x1).toNatClampNeg) + 1)) 223 (1 + x1).toNatClampNeg 0)) else none else none else none else none else none else none else (some ((-4), g155))) else (some ((-2), g149))
theorem F187_119 {L : Nat} {xs : Nat → Int32} {d : Nat} (K : Nat) : ∀ (n : Nat) (x1 : Int32) (x3 : Int32) (g : zS) (r : Int32) (g' : zS) (hE : f187_119 K n x1 x3 g = some (r, g')), zG2 L xs (d + 4) zm187 119 [some (.ref 222), some (.int x1), none, some (.int x3)] [] g (some (.int r)) g' := by
  intro n
  induction n with
  | zero => intro x1 x3  g r g' hE; cases hE
  | succ n ih =>
    intro x1 x3  g r g' hE
    rw [f187_119] at hE
    refine y_iload_n k187_119 rfl ?_
    refine y_aload_n k187_120 rfl rfl ?_
    refine y_getI k187_121 fk_10_194 sh222 rfl ?_
    by_cases c148 : (g 222 29) ≤ x3
    · rw [if_pos c148] at hE
      refine y_icT (tgt := 156) k187_124 (by decide) c148 ?_
      refine y_iconst (v := 1) k187_156 oi_1 ?_
      obtain ⟨rfl, rfl⟩ := zpr hE
      exact y_iret k187_157 rfl
    · rw [if_neg c148] at hE
      refine y_icF 156 k187_124 (by decide) c148 ?_
      refine y_aload_n k187_127 rfl rfl ?_
      refine y_getR k187_128 fk_10_7 sh222 rfl ?_
      refine y_bipush (v := 17) k187_131 b8_17 ?_
      refine y_bipush (v := 10) k187_133 b8_10 ?_
      refine y_iload_n k187_135 rfl ?_
      refine y_imul k187_136 ?_
      refine y_iadd k187_137 ?_
      refine y_aload_n k187_138 rfl rfl ?_
      refine y_getR k187_139 fk_10_51 sh222 rfl ?_
      refine y_iload_n k187_142 rfl ?_
      obtain ⟨hc, hE⟩ := zif_some hE
      refine y_iald k187_143 ar235 (zinN ln235 hc) ?_
      refine y_iadd k187_144 ?_
      refine y_dup2 k187_145 rfl rfl ?_
      obtain ⟨hc, hE⟩ := zif_some hE
      refine y_iald k187_146 ar223 (zinN ln223 hc) ?_
      refine y_iconst (v := 1) k187_147 oi_1 ?_
      refine y_iadd k187_148 ?_
      obtain ⟨hc, hE⟩ := zif_some hE
      refine y_iast k187_149 ar223 (zinN ln223 hc) ?_
      refine y_iinc (v := (x3 + 1)) (ls2 := [some (.ref 222), some (.int x1), none, some (.int (x3 + 1))]) k187_150 rfl rfl (by rw [oi_1]) rfl ?_
      refine y_goto (tgt := 119) k187_153 (by decide) ?_
      exact ih x1 (x3 + 1) _ _ _ hE
theorem F187 {L : Nat} {xs : Nat → Int32} (K : Nat) (x1 : Int32) (g : zS) (r : Int32) (g' : zS) (hE : f187 K x1 g = some (r, g')) (d : Nat) : zE2 L xs (d + 5) 187 [.ref 222, .int x1] g (some (.int r)) g' := by
  refine y_ev (n := 0) (d := d + 4) (ls := [some (.ref 222), some (.int x1), none, none]) zm187_get (by decide) (Nat.le_of_ble_eq_true rfl) rfl ?_
  unfold f187 at hE
  refine y_aload_n k187_0 rfl rfl ?_
  refine y_iload_n k187_1 rfl ?_
  obtain ⟨r150, g149, hc151, hE⟩ := zbd_some hE
  refine y_invVi (j := 170) (As := [.int x1]) (rest := []) (N := zm170) (F170 K x1 _ r150 g149 hc151 (d + 2)) k187_2 lk_10_228 zm170_get na170 rfl (Nat.le_of_ble_eq_true rfl) sh222 (by decide) rfl ?_
  by_cases c170 : ¬ r150 = 0
  · rw [if_pos c170] at hE
    refine y_ifT (tgt := 11) k187_5 (by decide) c170 ?_
    refine y_aload_n k187_11 rfl rfl ?_
    obtain ⟨u153, g152, hc154, hE⟩ := zbd_some hE
    refine y_invVv (j := 173) (As := []) (rest := []) (N := zm173) (F173 K  _ u153 g152 hc154 (d + 3)) k187_12 lk_10_236 zm173_get na173 rfl (Nat.le_of_ble_eq_true rfl) sh222 (by decide) rfl ?_
    refine y_aload_n k187_15 rfl rfl ?_
    refine y_getI k187_16 fk_10_194 sh222 rfl ?_
    by_cases c169 : (g152 222 29) = 0
    · rw [if_pos c169] at hE
      refine y_ifT (tgt := 29) k187_19 (by decide) c169 ?_
      refine y_bipush (v := (-4)) k187_29 b8_m4 ?_
      obtain ⟨rfl, rfl⟩ := zpr hE
      exact y_iret k187_31 rfl
    · rw [if_neg c169] at hE
      refine y_ifF 29 k187_19 (by decide) c169 ?_
      refine y_aload_n k187_22 rfl rfl ?_
      obtain ⟨r156, g155, hc157, hE⟩ := zbd_some hE
      refine y_invVi (j := 186) (As := []) (rest := []) (N := zm186) (F186 K  _ r156 g155 hc157 (d + 3)) k187_23 lk_10_222 zm186_get na186 rfl (Nat.le_of_ble_eq_true rfl) sh222 (by decide) rfl ?_
      by_cases c168 : r156 = 0
      · rw [if_pos c168] at hE
        refine y_ifT (tgt := 32) k187_26 (by decide) c168 ?_
        refine y_aload_n k187_32 rfl rfl ?_
        obtain ⟨u159, g158, hc160, hE⟩ := zbd_some hE
        refine y_invVv (j := 188) (As := []) (rest := []) (N := zm188) (F188 K  _ u159 g158 hc160 (d + 2)) k187_33 lk_10_247 zm188_get na188 rfl (Nat.le_of_ble_eq_true rfl) sh222 (by decide) rfl ?_
        refine y_aload_n k187_36 rfl rfl ?_
        refine y_aload_n k187_37 rfl rfl ?_
        refine y_getR k187_38 fk_10_32 sh222 rfl ?_
        refine y_iload_n k187_41 rfl ?_
        obtain ⟨hc, hE⟩ := zif_some hE
        refine y_iald k187_42 ar230 (zinN ln230 hc) ?_
        refine y_aload_n k187_43 rfl rfl ?_
        refine y_getR k187_44 fk_10_7 sh222 rfl ?_
        refine y_iconst (v := 0) k187_47 oi_0 ?_
        obtain ⟨hc, hE⟩ := zif_some hE
        refine y_iald k187_48 ar223 (zinN ln223 hc) ?_
        obtain ⟨r162, g161, hc163, hE⟩ := zbd_some hE
        refine y_invVi (j := 174) (As := [.int (g158 230 x1.toNatClampNeg), .int (g158 223 (0 : Int32).toNatClampNeg)]) (rest := []) (N := zm174) (F174 K (g158 230 x1.toNatClampNeg) (g158 223 (0 : Int32).toNatClampNeg) _ r162 g161 hc163 (d + 0)) k187_49 lk_10_219 zm174_get na174 rfl (Nat.le_of_ble_eq_true rfl) sh222 (by decide) rfl ?_
        refine y_istore_n (ls2 := [some (.ref 222), some (.int x1), some (.int r162), none]) k187_52 rfl (Nat.le_of_ble_eq_true rfl) rfl ?_
        refine y_iload_n k187_53 rfl ?_
        refine y_aload_n k187_54 rfl rfl ?_
        refine y_getR k187_55 fk_10_7 sh222 rfl ?_
        refine y_iconst (v := 1) k187_58 oi_1 ?_
        refine y_iload_n k187_59 rfl ?_
        refine y_iadd k187_60 ?_
        obtain ⟨hc, hE⟩ := zif_some hE
        refine y_iald k187_61 ar223 (zinN ln223 hc) ?_
        by_cases c167 : r162 ≤ (g161 223 (1 + x1).toNatClampNeg)
        · rw [if_pos c167] at hE
          refine y_icT (tgt := 89) k187_62 (by decide) c167 ?_
          refine y_aload_n k187_89 rfl rfl ?_
          refine y_getR k187_90 fk_10_7 sh222 rfl ?_
          refine y_iconst (v := 1) k187_93 oi_1 ?_
          refine y_iload_n k187_94 rfl ?_
          refine y_iadd k187_95 ?_
          refine y_dup2 k187_96 rfl rfl ?_
          obtain ⟨hc, hE⟩ := zif_some hE
          refine y_iald k187_97 ar223 (zinN ln223 hc) ?_
          refine y_iload_n k187_98 rfl ?_
          refine y_isub k187_99 ?_
          obtain ⟨hc, hE⟩ := zif_some hE
          refine y_iast k187_100 ar223 (zinN ln223 hc) ?_
          refine y_aload_n k187_101 rfl rfl ?_
          refine y_getR k187_102 fk_10_7 sh222 rfl ?_
          refine y_bipush (v := 13) k187_105 b8_13 ?_
          refine y_iload_n k187_107 rfl ?_
          refine y_iadd k187_108 ?_
          refine y_dup2 k187_109 rfl rfl ?_
          obtain ⟨hc, hE⟩ := zif_some hE
          refine y_iald k187_110 ar223 (zinN ln223 hc) ?_
          refine y_aload_n k187_111 rfl rfl ?_
          obtain ⟨r165, g164, hc166, hE⟩ := zbd_some hE
          refine y_invVi (j := 190) (As := []) (rest := [.int ((zup g161 223 (1 + x1).toNatClampNeg ((g161 223 (1 + x1).toNatClampNeg) - r162)) 223 (13 + x1).toNatClampNeg), .int (13 + x1), .ref 223]) (N := zm190) (F190 K  _ r165 g164 hc166 (d + 3)) k187_112 lk_10_250 zm190_get na190 rfl (Nat.le_of_ble_eq_true rfl) sh222 (by decide) rfl ?_
          refine y_iadd k187_115 ?_
          obtain ⟨hc, hE⟩ := zif_some hE
          refine y_iast k187_116 ar223 (zinN ln223 hc) ?_
          refine y_iconst (v := 0) k187_117 oi_0 ?_
          refine y_istore_n (ls2 := [some (.ref 222), some (.int x1), some (.int r162), some (.int 0)]) k187_118 rfl (Nat.le_of_ble_eq_true rfl) rfl ?_
          exact y_weak (ls0 := [some (.ref 222), some (.int x1), none, some (.int 0)]) ⟨rfl, rfl, rfl, rfl, trivial⟩ (F187_119 K K x1 0 _ _ _ hE)
        · rw [if_neg c167] at hE
          refine y_icF 89 k187_62 (by decide) c167 ?_
          refine y_aload_n k187_65 rfl rfl ?_
          refine y_getR k187_66 fk_10_7 sh222 rfl ?_
          refine y_bipush (v := 9) k187_69 b8_9 ?_
          refine y_iload_n k187_71 rfl ?_
          refine y_iadd k187_72 ?_
          refine y_dup2 k187_73 rfl rfl ?_
          obtain ⟨hc, hE⟩ := zif_some hE
          refine y_iald k187_74 ar223 (zinN ln223 hc) ?_
          refine y_iconst (v := 1) k187_75 oi_1 ?_
          refine y_iadd k187_76 ?_
          obtain ⟨hc, hE⟩ := zif_some hE
          refine y_iast k187_77 ar223 (zinN ln223 hc) ?_
          refine y_aload_n k187_78 rfl rfl ?_
          refine y_getR k187_79 fk_10_7 sh222 rfl ?_
          refine y_iconst (v := 1) k187_82 oi_1 ?_
          refine y_iload_n k187_83 rfl ?_
          refine y_iadd k187_84 ?_
          refine y_iconst (v := 0) k187_85 oi_0 ?_
          obtain ⟨hc, hE⟩ := zif_some hE
          refine y_iast k187_86 ar223 (zinN ln223 hc) ?_
          refine y_iconst (v := 0) k187_87 oi_0 ?_
          obtain ⟨rfl, rfl⟩ := zpr hE
          exact y_iret k187_88 rfl
      · rw [if_neg c168] at hE
        refine y_ifF 32 k187_26 (by decide) c168 ?_
        refine y_bipush (v := (-4)) k187_29 b8_m4 ?_
        obtain ⟨rfl, rfl⟩ := zpr hE
        exact y_iret k187_31 rfl
  · rw [if_neg c170] at hE
    refine y_ifF 11 k187_5 (by decide) c170 ?_
    refine y_bipush (v := (-2)) k187_8 b8_m2 ?_
    obtain ⟨rfl, rfl⟩ := zpr hE
    exact y_iret k187_10 rfl
-- AdjectiveCouponsModel.citizenCost
def f205 (K : Nat) (g : zS) : Option (Int32 × zS) := if zin (0 : Int32) 803 then zbd (f174 K 0 (g 223 (0 : Int32).toNatClampNeg) g) fun r105 g104 => some (r105, g104) else none
theorem F205 {L : Nat} {xs : Nat → Int32} (K : Nat) (g : zS) (r : Int32) (g' : zS) (hE : f205 K  g = some (r, g')) (d : Nat) : zE2 L xs (d + 5) 205 [.ref 222] g (some (.int r)) g' := by
  refine y_ev (n := 0) (d := d + 4) (ls := [some (.ref 222)]) zm205_get (by decide) (Nat.le_of_ble_eq_true rfl) rfl ?_
  unfold f205 at hE
  refine y_aload_n k205_0 rfl rfl ?_
  refine y_iconst (v := 0) k205_1 oi_0 ?_
  refine y_aload_n k205_2 rfl rfl ?_
  refine y_getR k205_3 fk_10_7 sh222 rfl ?_
  refine y_iconst (v := 0) k205_6 oi_0 ?_
  obtain ⟨hc, hE⟩ := zif_some hE
  refine y_iald k205_7 ar223 (zinN ln223 hc) ?_
  obtain ⟨r105, g104, hc106, hE⟩ := zbd_some hE
  refine y_invVi (j := 174) (As := [.int 0, .int (g 223 (0 : Int32).toNatClampNeg)]) (rest := []) (N := zm174) (F174 K 0 (g 223 (0 : Int32).toNatClampNeg) _ r105 g104 hc106 (d + 0)) k205_8 lk_10_219 zm174_get na174 rfl (Nat.le_of_ble_eq_true rfl) sh222 (by decide) rfl ?_
  obtain ⟨rfl, rfl⟩ := zpr hE
  exact y_iret k205_11 rfl
-- AdjectiveCouponsModel.drafted
def f216 (K : Nat) (x1 : Int32) (x2 : Int32) (x3 : Int32) (g : zS) : Option (Int32 × zS) := zbd (f146 K x1.toInt64 0 (((g 222 21) - 1).toInt64) g) fun r122 g121 => if r122 = 0 then some ((-2), g121) else (zbd (f170 K x2 g121) fun r125 g124 => if ¬ r125 = 0 then zbd (f217 K x1 g124) fun _ g127 => if ¬ x3 = 0 then if ¬ x3 = 1 then if ¬ x3 = 2 then some ((-3), g127) else (zbd (f190 K  g127) fun r131 g130 => some (r131, g130)) else if zin x2 4 then if zin (0 : Int32) 803 then zbd (f174 K (g127 230 x2.toNatClampNeg) (g127 223 (0 : Int32).toNatClampNeg) g127) fun r135 g134 => some (r135, g134) else none else none else (some ((g127 222 29), g127)) else (some ((-2), g124)))
theorem F216 {L : Nat} {xs : Nat → Int32} (K : Nat) (x1 : Int32) (x2 : Int32) (x3 : Int32) (g : zS) (r : Int32) (g' : zS) (hE : f216 K x1 x2 x3 g = some (r, g')) (d : Nat) : zE2 L xs (d + 5) 216 [.ref 222, .int x1, .int x2, .int x3] g (some (.int r)) g' := by
  refine y_ev (n := 0) (d := d + 4) (ls := [some (.ref 222), some (.int x1), some (.int x2), some (.int x3)]) zm216_get (by decide) (Nat.le_of_ble_eq_true rfl) rfl ?_
  unfold f216 at hE
  refine y_iload_n k216_0 rfl ?_
  refine y_i2l k216_1 ?_
  refine y_lconst (v := 0) k216_2 rfl ?_
  refine y_aload_n k216_3 rfl rfl ?_
  refine y_getI k216_4 fk_10_188 sh222 rfl ?_
  refine y_iconst (v := 1) k216_7 oi_1 ?_
  refine y_isub k216_8 ?_
  refine y_i2l k216_9 ?_
  obtain ⟨r122, g121, hc123, hE⟩ := zbd_some hE
  refine y_invSi (j := 146) (As := [.long x1.toInt64, .long 0, .long (((g 222 21) - 1).toInt64)]) (rest := []) (N := zm146) (F146 K x1.toInt64 0 (((g 222 21) - 1).toInt64) _ r122 g121 hc123 (d + 3)) k216_10 lk_10_65 zm146_get na146 rfl (Nat.le_of_ble_eq_true rfl) ?_
  by_cases c140 : r122 = 0
  · rw [if_pos c140] at hE
    refine y_ifT (tgt := 24) k216_13 (by decide) c140 ?_
    refine y_bipush (v := (-2)) k216_24 b8_m2 ?_
    obtain ⟨rfl, rfl⟩ := zpr hE
    exact y_iret k216_26 rfl
  · rw [if_neg c140] at hE
    refine y_ifF 24 k216_13 (by decide) c140 ?_
    refine y_aload_n k216_16 rfl rfl ?_
    refine y_iload_n k216_17 rfl ?_
    obtain ⟨r125, g124, hc126, hE⟩ := zbd_some hE
    refine y_invVi (j := 170) (As := [.int x2]) (rest := []) (N := zm170) (F170 K x2 _ r125 g124 hc126 (d + 2)) k216_18 lk_10_228 zm170_get na170 rfl (Nat.le_of_ble_eq_true rfl) sh222 (by decide) rfl ?_
    by_cases c139 : ¬ r125 = 0
    · rw [if_pos c139] at hE
      refine y_ifT (tgt := 27) k216_21 (by decide) c139 ?_
      refine y_aload_n k216_27 rfl rfl ?_
      refine y_iload_n k216_28 rfl ?_
      obtain ⟨u128, g127, hc129, hE⟩ := zbd_some hE
      refine y_invVv (j := 217) (As := [.int x1]) (rest := []) (N := zm217) (F217 K x1 _ u128 g127 hc129 (d + 3)) k216_29 lk_10_299 zm217_get na217 rfl (Nat.le_of_ble_eq_true rfl) sh222 (by decide) rfl ?_
      refine y_iload_n k216_32 rfl ?_
      by_cases c138 : ¬ x3 = 0
      · rw [if_pos c138] at hE
        refine y_ifT (tgt := 43) k216_33 (by decide) c138 ?_
        refine y_iload_n k216_43 rfl ?_
        refine y_iconst (v := 1) k216_44 oi_1 ?_
        by_cases c137 : ¬ x3 = 1
        · rw [if_pos c137] at hE
          refine y_icT (tgt := 67) k216_45 (by decide) c137 ?_
          refine y_iload_n k216_67 rfl ?_
          refine y_iconst (v := 2) k216_68 oi_2 ?_
          by_cases c133 : ¬ x3 = 2
          · rw [if_pos c133] at hE
            refine y_icT (tgt := 79) k216_69 (by decide) c133 ?_
            refine y_bipush (v := (-3)) k216_79 b8_m3 ?_
            obtain ⟨rfl, rfl⟩ := zpr hE
            exact y_iret k216_81 rfl
          · rw [if_neg c133] at hE
            refine y_icF 79 k216_69 (by decide) c133 ?_
            refine y_aload_n k216_72 rfl rfl ?_
            obtain ⟨r131, g130, hc132, hE⟩ := zbd_some hE
            refine y_invVi (j := 190) (As := []) (rest := []) (N := zm190) (F190 K  _ r131 g130 hc132 (d + 3)) k216_73 lk_10_250 zm190_get na190 rfl (Nat.le_of_ble_eq_true rfl) sh222 (by decide) rfl ?_
            refine y_goto (tgt := 81) k216_76 (by decide) ?_
            obtain ⟨rfl, rfl⟩ := zpr hE
            exact y_iret k216_81 rfl
        · rw [if_neg c137] at hE
          refine y_icF 67 k216_45 (by decide) c137 ?_
          refine y_aload_n k216_48 rfl rfl ?_
          refine y_aload_n k216_49 rfl rfl ?_
          refine y_getR k216_50 fk_10_32 sh222 rfl ?_
          refine y_iload_n k216_53 rfl ?_
          obtain ⟨hc, hE⟩ := zif_some hE
          refine y_iald k216_54 ar230 (zinN ln230 hc) ?_
          refine y_aload_n k216_55 rfl rfl ?_
          refine y_getR k216_56 fk_10_7 sh222 rfl ?_
          refine y_iconst (v := 0) k216_59 oi_0 ?_
          obtain ⟨hc, hE⟩ := zif_some hE
          refine y_iald k216_60 ar223 (zinN ln223 hc) ?_
          obtain ⟨r135, g134, hc136, hE⟩ := zbd_some hE
          refine y_invVi (j := 174) (As := [.int (g127 230 x2.toNatClampNeg), .int (g127 223 (0 : Int32).toNatClampNeg)]) (rest := []) (N := zm174) (F174 K (g127 230 x2.toNatClampNeg) (g127 223 (0 : Int32).toNatClampNeg) _ r135 g134 hc136 (d + 0)) k216_61 lk_10_219 zm174_get na174 rfl (Nat.le_of_ble_eq_true rfl) sh222 (by decide) rfl ?_
          refine y_goto (tgt := 81) k216_64 (by decide) ?_
          obtain ⟨rfl, rfl⟩ := zpr hE
          exact y_iret k216_81 rfl
      · rw [if_neg c138] at hE
        refine y_ifF 43 k216_33 (by decide) c138 ?_
        refine y_aload_n k216_36 rfl rfl ?_
        refine y_getI k216_37 fk_10_194 sh222 rfl ?_
        refine y_goto (tgt := 81) k216_40 (by decide) ?_
        obtain ⟨rfl, rfl⟩ := zpr hE
        exact y_iret k216_81 rfl
    · rw [if_neg c139] at hE
      refine y_ifF 27 k216_21 (by decide) c139 ?_
      refine y_bipush (v := (-2)) k216_24 b8_m2 ?_
      obtain ⟨rfl, rfl⟩ := zpr hE
      exact y_iret k216_26 rfl
-- AdjectiveCouponsModel.canPay
def f221_80 (K : Nat) (k15 : Int32 → Int32 → Int32 → Int32 → Int32 → zS → Option (Int32 × zS)) (x1 : Int32) (x2 : Int32) (x3 : Int32) (x5 : Int32) (x6 : Int32) (xs0 : Int32) (g : zS) : Option (Int32 × zS) := zbd (f192 K x1 (x3 - x6) g) fun r158 g157 => k15 x1 x2 r158 xs0 (x5 + 1) g157
def f221_79 (K : Nat) (k15 : Int32 → Int32 → Int32 → Int32 → Int32 → zS → Option (Int32 × zS)) (x1 : Int32) (x2 : Int32) (x3 : Int32) (x5 : Int32) (x6 : Int32) (g : zS) : Option (Int32 × zS) := f221_80 K k15 x1 x2 x3 x5 x6 0 g
def f221_62 (K : Nat) (k15 : Int32 → Int32 → Int32 → Int32 → Int32 → zS → Option (Int32 × zS)) (x1 : Int32) (x2 : Int32) (x3 : Int32) (x4 : Int32) (x5 : Int32) (xs0 : Int32) (g : zS) : Option (Int32 × zS) := if x4 = 0 then f221_79 K k15 x1 x2 x3 x5 xs0 g else if x3 < xs0 then f221_79 K k15 x1 x2 x3 x5 xs0 g else (f221_80 K k15 x1 x2 x3 x5 xs0 1 g)
def f221_15 (K : Nat) : Nat → Int32 → Int32 → Int32 → Int32 → Int32 → zS → Option (Int32 × zS)
  | 0, _, _, _, _, _, _ => none
  | n + 1, x1, x2, x3, x4, x5, g => if (g 222 21) ≤ x5 then if x4 = 0 ∨ x4 = 1 then some (x4, g) else none else (zbd (f217 K x5 g) fun _ g162 => zbd (f177 K x2 x5 g162) fun r166 g165 => if r166 = 0 then f221_62 K (f221_15 K n) x1 x2 x3 x4 x5 0 g165 else if zin x1 4 then if zin (0 : Int32) 803 then zbd (f174 K (g165 230 x1.toNatClampNeg) ((g165 223 (0 : Int32).toNatClampNeg) + x5) g165) fun r169 g168 => f221_62 K (f221_15 K n) x1 x2 x3 x4 x5 r169 g168 else none else none)
def f221 (K : Nat) (x1 : Int32) (x2 : Int32) (g : zS) : Option (Int32 × zS) := if zin (1 + x1) 803 then f221_15 K K x1 x2 (g 223 (1 + x1).toNatClampNeg) 1 0 g else none
theorem F221_80 {L : Nat} {xs : Nat → Int32} {d : Nat} (K : Nat) (k15 : Int32 → Int32 → Int32 → Int32 → Int32 → zS → Option (Int32 × zS)) (hk15 : ∀ (x1 : Int32) (x2 : Int32) (x3 : Int32) (x4 : Int32) (x5 : Int32) (g : zS) (r : Int32) (g' : zS), k15 x1 x2 x3 x4 x5 g = some (r, g') → zG2 L xs (d + 4) zm221 15 [some (.ref 222), some (.int x1), some (.int x2), some (.int x3), some (.int x4), some (.int x5), none] [] g (some (.int r)) g') (x1 : Int32) (x2 : Int32) (x3 : Int32) (x5 : Int32) (x6 : Int32) (xs0 : Int32) (g : zS) (r : Int32) (g' : zS) (hE : f221_80 K k15 x1 x2 x3 x5 x6 xs0 g = some (r, g')) : zG2 L xs (d + 4) zm221 80 [some (.ref 222), some (.int x1), some (.int x2), some (.int x3), none, some (.int x5), some (.int x6)] [.int xs0] g (some (.int r)) g' := by
  unfold f221_80 at hE
  refine y_istore (ls2 := [some (.ref 222), some (.int x1), some (.int x2), some (.int x3), some (.int xs0), some (.int x5), some (.int x6)]) k221_80 rfl (Nat.le_of_ble_eq_true rfl) rfl ?_
  refine y_aload_n k221_82 rfl rfl ?_
  refine y_iload_n k221_83 rfl ?_
  refine y_iload_n k221_84 rfl ?_
  refine y_iload k221_85 rfl ?_
  refine y_isub k221_87 ?_
  obtain ⟨r158, g157, hc159, hE⟩ := zbd_some hE
  refine y_invVi (j := 192) (As := [.int x1, .int (x3 - x6)]) (rest := []) (N := zm192) (F192 K x1 (x3 - x6) _ r158 g157 hc159 (d + 3)) k221_88 lk_10_253 zm192_get na192 rfl (Nat.le_of_ble_eq_true rfl) sh222 (by decide) rfl ?_
  refine y_istore_n (ls2 := [some (.ref 222), some (.int x1), some (.int x2), some (.int r158), some (.int xs0), some (.int x5), some (.int x6)]) k221_91 rfl (Nat.le_of_ble_eq_true rfl) rfl ?_
  refine y_iinc (v := (x5 + 1)) (ls2 := [some (.ref 222), some (.int x1), some (.int x2), some (.int r158), some (.int xs0), some (.int (x5 + 1)), some (.int x6)]) k221_92 rfl rfl (by rw [oi_1]) rfl ?_
  refine y_goto (tgt := 15) k221_95 (by decide) ?_
  exact y_weak (ls0 := [some (.ref 222), some (.int x1), some (.int x2), some (.int r158), some (.int xs0), some (.int (x5 + 1)), none]) ⟨rfl, rfl, rfl, rfl, rfl, rfl, rfl, trivial⟩ (hk15 x1 x2 r158 xs0 (x5 + 1) _ _ _ hE)
theorem F221_79 {L : Nat} {xs : Nat → Int32} {d : Nat} (K : Nat) (k15 : Int32 → Int32 → Int32 → Int32 → Int32 → zS → Option (Int32 × zS)) (hk15 : ∀ (x1 : Int32) (x2 : Int32) (x3 : Int32) (x4 : Int32) (x5 : Int32) (g : zS) (r : Int32) (g' : zS), k15 x1 x2 x3 x4 x5 g = some (r, g') → zG2 L xs (d + 4) zm221 15 [some (.ref 222), some (.int x1), some (.int x2), some (.int x3), some (.int x4), some (.int x5), none] [] g (some (.int r)) g') (x1 : Int32) (x2 : Int32) (x3 : Int32) (x5 : Int32) (x6 : Int32) (g : zS) (r : Int32) (g' : zS) (hE : f221_79 K k15 x1 x2 x3 x5 x6 g = some (r, g')) : zG2 L xs (d + 4) zm221 79 [some (.ref 222), some (.int x1), some (.int x2), some (.int x3), none, some (.int x5), some (.int x6)] [] g (some (.int r)) g' := by
  unfold f221_79 at hE
  refine y_iconst (v := 0) k221_79 oi_0 ?_
  exact F221_80 K k15 hk15 x1 x2 x3 x5 x6 0 _ _ _ hE
theorem F221_62 {L : Nat} {xs : Nat → Int32} {d : Nat} (K : Nat) (k15 : Int32 → Int32 → Int32 → Int32 → Int32 → zS → Option (Int32 × zS)) (hk15 : ∀ (x1 : Int32) (x2 : Int32) (x3 : Int32) (x4 : Int32) (x5 : Int32) (g : zS) (r : Int32) (g' : zS), k15 x1 x2 x3 x4 x5 g = some (r, g') → zG2 L xs (d + 4) zm221 15 [some (.ref 222), some (.int x1), some (.int x2), some (.int x3), some (.int x4), some (.int x5), none] [] g (some (.int r)) g') (x1 : Int32) (x2 : Int32) (x3 : Int32) (x4 : Int32) (x5 : Int32) (xs0 : Int32) (g : zS) (r : Int32) (g' : zS) (hE : f221_62 K k15 x1 x2 x3 x4 x5 xs0 g = some (r, g')) : zG2 L xs (d + 4) zm221 62 [some (.ref 222), some (.int x1), some (.int x2), some (.int x3), some (.int x4), some (.int x5), none] [.int xs0] g (some (.int r)) g' := by
  unfold f221_62 at hE
  refine y_istore (ls2 := [some (.ref 222), some (.int x1), some (.int x2), some (.int x3), some (.int x4), some (.int x5), some (.int xs0)]) k221_62 rfl (Nat.le_of_ble_eq_true rfl) rfl ?_
  refine y_iload k221_64 rfl ?_
  by_cases c161 : x4 = 0
  · rw [if_pos c161] at hE
    refine y_ifT (tgt := 79) k221_66 (by decide) c161 ?_
    exact y_weak (ls0 := [some (.ref 222), some (.int x1), some (.int x2), some (.int x3), none, some (.int x5), some (.int xs0)]) ⟨rfl, rfl, rfl, rfl, rfl, rfl, rfl, trivial⟩ (F221_79 K k15 hk15 x1 x2 x3 x5 xs0 _ _ _ hE)
  · rw [if_neg c161] at hE
    refine y_ifF 79 k221_66 (by decide) c161 ?_
    refine y_iload k221_69 rfl ?_
    refine y_iload_n k221_71 rfl ?_
    by_cases c160 : x3 < xs0
    · rw [if_pos c160] at hE
      refine y_icT (tgt := 79) k221_72 (by decide) c160 ?_
      exact y_weak (ls0 := [some (.ref 222), some (.int x1), some (.int x2), some (.int x3), none, some (.int x5), some (.int xs0)]) ⟨rfl, rfl, rfl, rfl, rfl, rfl, rfl, trivial⟩ (F221_79 K k15 hk15 x1 x2 x3 x5 xs0 _ _ _ hE)
    · rw [if_neg c160] at hE
      refine y_icF 79 k221_72 (by decide) c160 ?_
      refine y_iconst (v := 1) k221_75 oi_1 ?_
      refine y_goto (tgt := 80) k221_76 (by decide) ?_
      exact y_weak (ls0 := [some (.ref 222), some (.int x1), some (.int x2), some (.int x3), none, some (.int x5), some (.int xs0)]) ⟨rfl, rfl, rfl, rfl, rfl, rfl, rfl, trivial⟩ (F221_80 K k15 hk15 x1 x2 x3 x5 xs0 1 _ _ _ hE)
theorem F221_15 {L : Nat} {xs : Nat → Int32} {d : Nat} (K : Nat) : ∀ (n : Nat) (x1 : Int32) (x2 : Int32) (x3 : Int32) (x4 : Int32) (x5 : Int32) (g : zS) (r : Int32) (g' : zS) (hE : f221_15 K n x1 x2 x3 x4 x5 g = some (r, g')), zG2 L xs (d + 4) zm221 15 [some (.ref 222), some (.int x1), some (.int x2), some (.int x3), some (.int x4), some (.int x5), none] [] g (some (.int r)) g' := by
  intro n
  induction n with
  | zero => intro x1 x2 x3 x4 x5  g r g' hE; cases hE
  | succ n ih =>
    intro x1 x2 x3 x4 x5  g r g' hE
    rw [f221_15] at hE
    refine y_iload k221_15 rfl ?_
    refine y_aload_n k221_17 rfl rfl ?_
    refine y_getI k221_18 fk_10_188 sh222 rfl ?_
    by_cases c172 : (g 222 21) ≤ x5
    · rw [if_pos c172] at hE
      refine y_icT (tgt := 98) k221_21 (by decide) c172 ?_
      refine y_iload k221_98 rfl ?_
      obtain ⟨hc, hE⟩ := zif_some hE
      obtain ⟨rfl, rfl⟩ := zpr hE
      exact y_zret k221_100 rfl hc
    · rw [if_neg c172] at hE
      refine y_icF 98 k221_21 (by decide) c172 ?_
      refine y_aload_n k221_24 rfl rfl ?_
      refine y_iload k221_25 rfl ?_
      obtain ⟨u163, g162, hc164, hE⟩ := zbd_some hE
      refine y_invVv (j := 217) (As := [.int x5]) (rest := []) (N := zm217) (F217 K x5 _ u163 g162 hc164 (d + 3)) k221_27 lk_10_299 zm217_get na217 rfl (Nat.le_of_ble_eq_true rfl) sh222 (by decide) rfl ?_
      refine y_iload_n k221_30 rfl ?_
      refine y_iload k221_31 rfl ?_
      obtain ⟨r166, g165, hc167, hE⟩ := zbd_some hE
      refine y_invSi (j := 177) (As := [.int x2, .int x5]) (rest := []) (N := zm177) (F177 K x2 x5 _ r166 g165 hc167 (d + 3)) k221_33 lk_10_203 zm177_get na177 rfl (Nat.le_of_ble_eq_true rfl) ?_
      by_cases c171 : r166 = 0
      · rw [if_pos c171] at hE
        refine y_ifT (tgt := 61) k221_36 (by decide) c171 ?_
        refine y_iconst (v := 0) k221_61 oi_0 ?_
        exact F221_62 K (f221_15 K n) ih x1 x2 x3 x4 x5 0 _ _ _ hE
      · rw [if_neg c171] at hE
        refine y_ifF 61 k221_36 (by decide) c171 ?_
        refine y_aload_n k221_39 rfl rfl ?_
        refine y_aload_n k221_40 rfl rfl ?_
        refine y_getR k221_41 fk_10_32 sh222 rfl ?_
        refine y_iload_n k221_44 rfl ?_
        obtain ⟨hc, hE⟩ := zif_some hE
        refine y_iald k221_45 ar230 (zinN ln230 hc) ?_
        refine y_aload_n k221_46 rfl rfl ?_
        refine y_getR k221_47 fk_10_7 sh222 rfl ?_
        refine y_iconst (v := 0) k221_50 oi_0 ?_
        obtain ⟨hc, hE⟩ := zif_some hE
        refine y_iald k221_51 ar223 (zinN ln223 hc) ?_
        refine y_iload k221_52 rfl ?_
        refine y_iadd k221_54 ?_
        obtain ⟨r169, g168, hc170, hE⟩ := zbd_some hE
        refine y_invVi (j := 174) (As := [.int (g165 230 x1.toNatClampNeg), .int ((g165 223 (0 : Int32).toNatClampNeg) + x5)]) (rest := []) (N := zm174) (F174 K (g165 230 x1.toNatClampNeg) ((g165 223 (0 : Int32).toNatClampNeg) + x5) _ r169 g168 hc170 (d + 0)) k221_55 lk_10_219 zm174_get na174 rfl (Nat.le_of_ble_eq_true rfl) sh222 (by decide) rfl ?_
        refine y_goto (tgt := 62) k221_58 (by decide) ?_
        exact F221_62 K (f221_15 K n) ih x1 x2 x3 x4 x5 r169 _ _ _ hE
theorem F221 {L : Nat} {xs : Nat → Int32} (K : Nat) (x1 : Int32) (x2 : Int32) (g : zS) (r : Int32) (g' : zS) (hE : f221 K x1 x2 g = some (r, g')) (d : Nat) : zE2 L xs (d + 5) 221 [.ref 222, .int x1, .int x2] g (some (.int r)) g' := by
  refine y_ev (n := 0) (d := d + 4) (ls := [some (.ref 222), some (.int x1), some (.int x2), none, none, none, none]) zm221_get (by decide) (Nat.le_of_ble_eq_true rfl) rfl ?_
  unfold f221 at hE
  refine y_aload_n k221_0 rfl rfl ?_
  refine y_getR k221_1 fk_10_7 sh222 rfl ?_
  refine y_iconst (v := 1) k221_4 oi_1 ?_
  refine y_iload_n k221_5 rfl ?_
  refine y_iadd k221_6 ?_
  obtain ⟨hc, hE⟩ := zif_some hE
  refine y_iald k221_7 ar223 (zinN ln223 hc) ?_
  refine y_istore_n (ls2 := [some (.ref 222), some (.int x1), some (.int x2), some (.int (g 223 (1 + x1).toNatClampNeg)), none, none, none]) k221_8 rfl (Nat.le_of_ble_eq_true rfl) rfl ?_
  refine y_iconst (v := 1) k221_9 oi_1 ?_
  refine y_istore (ls2 := [some (.ref 222), some (.int x1), some (.int x2), some (.int (g 223 (1 + x1).toNatClampNeg)), some (.int 1), none, none]) k221_10 rfl (Nat.le_of_ble_eq_true rfl) rfl ?_
  refine y_iconst (v := 0) k221_12 oi_0 ?_
  refine y_istore (ls2 := [some (.ref 222), some (.int x1), some (.int x2), some (.int (g 223 (1 + x1).toNatClampNeg)), some (.int 1), some (.int 0), none]) k221_13 rfl (Nat.le_of_ble_eq_true rfl) rfl ?_
  exact F221_15 K K x1 x2 (g 223 (1 + x1).toNatClampNeg) 1 0 _ _ _ hE
-- AdjectiveCouponsModel.fault
def f148_116 (K : Nat) (k50 : zS → Option (Int32 × zS)) (x1 : Int32) (g : zS) : Option (Int32 × zS) := if ¬ x1 = 0 then k50  g else (some ((g 222 23), g))
def f148_102 (K : Nat) (k50 : zS → Option (Int32 × zS)) (xs0 : Int32) (g : zS) : Option (Int32 × zS) := if xs0 = 0 then f148_116 K k50 xs0 g else (zbd (f149 K  g) fun _ g162 => zbd (f151 K  g162) fun r166 g165 => f148_116 K k50 r166 g165)
def f148_101 (K : Nat) (k50 : zS → Option (Int32 × zS)) (g : zS) : Option (Int32 × zS) := f148_102 K k50 0 g
def f148_50 (K : Nat) : Nat → zS → Option (Int32 × zS)
  | 0, _ => none
  | n + 1, g => if (g 222 4) ≤ (g 222 23) then some ((-1), g) else if ¬ ((g 222 24) - (g 222 23)) = 1 then f148_101 K (f148_50 K n)  g else if zin (g 222 23) 160 then if ¬ (g 225 (g 222 23).toNatClampNeg) = 59 then f148_101 K (f148_50 K n)  g else if 14 ≤ (g 222 6) then f148_101 K (f148_50 K n)  g else (f148_102 K (f148_50 K n) 1 g) else none
def f148 (K : Nat) (g : zS) : Option (Int32 × zS) := zbd (f149 K  (zup (zup (zup (zup (zup g 222 22 0) 222 6 0) 222 25 ((zup (zup g 222 22 0) 222 6 0) 222 9)) 222 26 ((zup (zup (zup g 222 22 0) 222 6 0) 222 25 ((zup (zup g 222 22 0) 222 6 0) 222 9)) 222 11)) 222 27 ((zup (zup (zup (zup g 222 22 0) 222 6 0) 222 25 ((zup (zup g 222 22 0) 222 6 0) 222 9)) 222 26 ((zup (zup (zup g 222 22 0) 222 6 0) 222 25 ((zup (zup g 222 22 0) 222 6 0) 222 9)) 222 11)) 222 14))) fun _ g173 => zbd (f151 K  g173) fun r177 g176 => if ¬ r177 = 0 then f148_50 K K  g176 else (some ((g176 222 23), g176))
theorem F148_116 {L : Nat} {xs : Nat → Int32} {d : Nat} (K : Nat) (k50 : zS → Option (Int32 × zS)) (hk50 : ∀  (g : zS) (r : Int32) (g' : zS), k50  g = some (r, g') → zG2 L xs (d + 5) zm148 50 [some (.ref 222), none] [] g (some (.int r)) g') (x1 : Int32) (g : zS) (r : Int32) (g' : zS) (hE : f148_116 K k50 x1 g = some (r, g')) : zG2 L xs (d + 5) zm148 116 [some (.ref 222), some (.int x1)] [] g (some (.int r)) g' := by
  unfold f148_116 at hE
  refine y_iload_n k148_116 rfl ?_
  by_cases c161 : ¬ x1 = 0
  · rw [if_pos c161] at hE
    refine y_ifT (tgt := 125) k148_117 (by decide) c161 ?_
    refine y_goto (tgt := 50) k148_125 (by decide) ?_
    exact y_weak (ls0 := [some (.ref 222), none]) ⟨rfl, rfl, trivial⟩ (hk50  _ _ _ hE)
  · rw [if_neg c161] at hE
    refine y_ifF 125 k148_117 (by decide) c161 ?_
    refine y_aload_n k148_120 rfl rfl ?_
    refine y_getI k148_121 fk_10_75 sh222 rfl ?_
    obtain ⟨rfl, rfl⟩ := zpr hE
    exact y_iret k148_124 rfl
theorem F148_102 {L : Nat} {xs : Nat → Int32} {d : Nat} (K : Nat) (k50 : zS → Option (Int32 × zS)) (hk50 : ∀  (g : zS) (r : Int32) (g' : zS), k50  g = some (r, g') → zG2 L xs (d + 5) zm148 50 [some (.ref 222), none] [] g (some (.int r)) g') (xs0 : Int32) (g : zS) (r : Int32) (g' : zS) (hE : f148_102 K k50 xs0 g = some (r, g')) : zG2 L xs (d + 5) zm148 102 [some (.ref 222), none] [.int xs0] g (some (.int r)) g' := by
  unfold f148_102 at hE
  refine y_istore_n (ls2 := [some (.ref 222), some (.int xs0)]) k148_102 rfl (Nat.le_of_ble_eq_true rfl) rfl ?_
  refine y_iload_n k148_103 rfl ?_
  by_cases c168 : xs0 = 0
  · rw [if_pos c168] at hE
    refine y_ifT (tgt := 116) k148_104 (by decide) c168 ?_
    exact F148_116 K k50 hk50 xs0 _ _ _ hE
  · rw [if_neg c168] at hE
    refine y_ifF 116 k148_104 (by decide) c168 ?_
    refine y_aload_n k148_107 rfl rfl ?_
    obtain ⟨u163, g162, hc164, hE⟩ := zbd_some hE
    refine y_invVv (j := 149) (As := []) (rest := []) (N := zm149) (F149 K  _ u163 g162 hc164 (d + 3)) k148_108 lk_10_115 zm149_get na149 rfl (Nat.le_of_ble_eq_true rfl) sh222 (by decide) rfl ?_
    refine y_aload_n k148_111 rfl rfl ?_
    obtain ⟨r166, g165, hc167, hE⟩ := zbd_some hE
    refine y_invVi (j := 151) (As := []) (rest := []) (N := zm151) (F151 K  _ r166 g165 hc167 (d + 0)) k148_112 lk_10_158 zm151_get na151 rfl (Nat.le_of_ble_eq_true rfl) sh222 (by decide) rfl ?_
    refine y_istore_n (ls2 := [some (.ref 222), some (.int r166)]) k148_115 rfl (Nat.le_of_ble_eq_true rfl) rfl ?_
    exact F148_116 K k50 hk50 r166 _ _ _ hE
theorem F148_101 {L : Nat} {xs : Nat → Int32} {d : Nat} (K : Nat) (k50 : zS → Option (Int32 × zS)) (hk50 : ∀  (g : zS) (r : Int32) (g' : zS), k50  g = some (r, g') → zG2 L xs (d + 5) zm148 50 [some (.ref 222), none] [] g (some (.int r)) g') (g : zS) (r : Int32) (g' : zS) (hE : f148_101 K k50  g = some (r, g')) : zG2 L xs (d + 5) zm148 101 [some (.ref 222), none] [] g (some (.int r)) g' := by
  unfold f148_101 at hE
  refine y_iconst (v := 0) k148_101 oi_0 ?_
  exact F148_102 K k50 hk50 0 _ _ _ hE
theorem F148_50 {L : Nat} {xs : Nat → Int32} {d : Nat} (K : Nat) : ∀ (n : Nat) (g : zS) (r : Int32) (g' : zS) (hE : f148_50 K n  g = some (r, g')), zG2 L xs (d + 5) zm148 50 [some (.ref 222), none] [] g (some (.int r)) g' := by
  intro n
  induction n with
  | zero => intro   g r g' hE; cases hE
  | succ n ih =>
    intro   g r g' hE
    rw [f148_50] at hE
    refine y_aload_n k148_50 rfl rfl ?_
    refine y_getI k148_51 fk_10_75 sh222 rfl ?_
    refine y_aload_n k148_54 rfl rfl ?_
    refine y_getI k148_55 fk_10_69 sh222 rfl ?_
    by_cases c172 : (g 222 4) ≤ (g 222 23)
    · rw [if_pos c172] at hE
      refine y_icT (tgt := 128) k148_58 (by decide) c172 ?_
      refine y_iconst (v := (-1)) k148_128 oi_m1 ?_
      obtain ⟨rfl, rfl⟩ := zpr hE
      exact y_iret k148_129 rfl
    · rw [if_neg c172] at hE
      refine y_icF 128 k148_58 (by decide) c172 ?_
      refine y_aload_n k148_61 rfl rfl ?_
      refine y_getI k148_62 fk_10_82 sh222 rfl ?_
      refine y_aload_n k148_65 rfl rfl ?_
      refine y_getI k148_66 fk_10_75 sh222 rfl ?_
      refine y_isub k148_69 ?_
      refine y_iconst (v := 1) k148_70 oi_1 ?_
      by_cases c171 : ¬ ((g 222 24) - (g 222 23)) = 1
      · rw [if_pos c171] at hE
        refine y_icT (tgt := 101) k148_71 (by decide) c171 ?_
        exact F148_101 K (f148_50 K n) ih  _ _ _ hE
      · rw [if_neg c171] at hE
        refine y_icF 101 k148_71 (by decide) c171 ?_
        refine y_aload_n k148_74 rfl rfl ?_
        refine y_getR k148_75 fk_10_17 sh222 rfl ?_
        refine y_aload_n k148_78 rfl rfl ?_
        refine y_getI k148_79 fk_10_75 sh222 rfl ?_
        obtain ⟨hc, hE⟩ := zif_some hE
        refine y_iald k148_82 ar225 (zinN ln225 hc) ?_
        refine y_bipush (v := 59) k148_83 b8_59 ?_
        by_cases c170 : ¬ (g 225 (g 222 23).toNatClampNeg) = 59
        · rw [if_pos c170] at hE
          refine y_icT (tgt := 101) k148_85 (by decide) c170 ?_
          exact F148_101 K (f148_50 K n) ih  _ _ _ hE
        · rw [if_neg c170] at hE
          refine y_icF 101 k148_85 (by decide) c170 ?_
          refine y_aload_n k148_88 rfl rfl ?_
          refine y_getI k148_89 fk_10_112 sh222 rfl ?_
          refine y_bipush (v := 14) k148_92 b8_14 ?_
          by_cases c169 : 14 ≤ (g 222 6)
          · rw [if_pos c169] at hE
            refine y_icT (tgt := 101) k148_94 (by decide) c169 ?_
            exact F148_101 K (f148_50 K n) ih  _ _ _ hE
          · rw [if_neg c169] at hE
            refine y_icF 101 k148_94 (by decide) c169 ?_
            refine y_iconst (v := 1) k148_97 oi_1 ?_
            refine y_goto (tgt := 102) k148_98 (by decide) ?_
            exact F148_102 K (f148_50 K n) ih 1 _ _ _ hE
theorem F148 {L : Nat} {xs : Nat → Int32} (K : Nat) (g : zS) (r : Int32) (g' : zS) (hE : f148 K  g = some (r, g')) (d : Nat) : zE2 L xs (d + 6) 148 [.ref 222] g (some (.int r)) g' := by
  refine y_ev (n := 0) (d := d + 5) (ls := [some (.ref 222), none]) zm148_get (by decide) (Nat.le_of_ble_eq_true rfl) rfl ?_
  unfold f148 at hE
  refine y_aload_n k148_0 rfl rfl ?_
  refine y_iconst (v := 0) k148_1 oi_0 ?_
  refine y_putI k148_2 fk_10_72 sh222 rfl pi_10_22.1 pi_10_22.2 ?_
  refine y_aload_n k148_5 rfl rfl ?_
  refine y_iconst (v := 0) k148_6 oi_0 ?_
  refine y_putI k148_7 fk_10_112 sh222 rfl pi_10_6.1 pi_10_6.2 ?_
  refine y_aload_n k148_10 rfl rfl ?_
  refine y_aload_n k148_11 rfl rfl ?_
  refine y_getI k148_12 fk_10_149 sh222 rfl ?_
  refine y_putI k148_15 fk_10_134 sh222 rfl pi_10_25.1 pi_10_25.2 ?_
  refine y_aload_n k148_18 rfl rfl ?_
  refine y_aload_n k148_19 rfl rfl ?_
  refine y_getI k148_20 fk_10_152 sh222 rfl ?_
  refine y_putI k148_23 fk_10_143 sh222 rfl pi_10_26.1 pi_10_26.2 ?_
  refine y_aload_n k148_26 rfl rfl ?_
  refine y_aload_n k148_27 rfl rfl ?_
  refine y_getI k148_28 fk_10_155 sh222 rfl ?_
  refine y_putI k148_31 fk_10_140 sh222 rfl pi_10_27.1 pi_10_27.2 ?_
  refine y_aload_n k148_34 rfl rfl ?_
  obtain ⟨u174, g173, hc175, hE⟩ := zbd_some hE
  refine y_invVv (j := 149) (As := []) (rest := []) (N := zm149) (F149 K  _ u174 g173 hc175 (d + 3)) k148_35 lk_10_115 zm149_get na149 rfl (Nat.le_of_ble_eq_true rfl) sh222 (by decide) rfl ?_
  refine y_aload_n k148_38 rfl rfl ?_
  obtain ⟨r177, g176, hc178, hE⟩ := zbd_some hE
  refine y_invVi (j := 151) (As := []) (rest := []) (N := zm151) (F151 K  _ r177 g176 hc178 (d + 0)) k148_39 lk_10_158 zm151_get na151 rfl (Nat.le_of_ble_eq_true rfl) sh222 (by decide) rfl ?_
  by_cases c179 : ¬ r177 = 0
  · rw [if_pos c179] at hE
    refine y_ifT (tgt := 50) k148_42 (by decide) c179 ?_
    exact F148_50 K K  _ _ _ hE
  · rw [if_neg c179] at hE
    refine y_ifF 50 k148_42 (by decide) c179 ?_
    refine y_aload_n k148_45 rfl rfl ?_
    refine y_getI k148_46 fk_10_75 sh222 rfl ?_
    obtain ⟨rfl, rfl⟩ := zpr hE
    exact y_iret k148_49 rfl
-- AdjectiveCouponsModel.layOrders
def f202_149 (K : Nat) (k12 : Int32 → zS → Option (Unit × zS)) (x1 : Int32) (g : zS) : Option (Unit × zS) := k12 (x1 + 1) g
def f202_146 (K : Nat) (k12 : Int32 → zS → Option (Unit × zS)) (x1 : Int32) (xs1 : Int32) (g : zS) : Option (Unit × zS) := f202_149 K k12 x1 (zup g 222 33 xs1)
def f202_126 (K : Nat) (k12 : Int32 → zS → Option (Unit × zS)) (x1 : Int32) (x2 : Int32) (xs1 : Int32) (g : zS) : Option (Unit × zS) := if x2 ≤ ((zup g 222 32 xs1) 222 33) then f202_146 K k12 x1 ((zup g 222 32 xs1) 222 33) (zup g 222 32 xs1) else (f202_146 K k12 x1 x2 (zup g 222 32 xs1))
def f202_113 (K : Nat) (k12 : Int32 → zS → Option (Unit × zS)) (x1 : Int32) (x2 : Int32) (x3 : Int32) (g : zS) : Option (Unit × zS) := if x3 = 0 then f202_126 K k12 x1 x2 (g 222 32) g else (f202_126 K k12 x1 x2 x2 g)
def f202_80 (K : Nat) (k12 : Int32 → zS → Option (Unit × zS)) : Nat → Int32 → Int32 → Int32 → Int32 → zS → Option (Unit × zS)
  | 0, _, _, _, _, _ => none
  | n + 1, x1, x2, x3, x4, g => if (g 222 29) ≤ x4 then f202_113 K k12 x1 x2 x3 g else if x3 = 0 then f202_113 K k12 x1 x2 x3 g else if zin x4 8 then if zin x4 8 then (f202_80 K k12 n) x1 x2 x3 (x4 + 1) (zup g 237 x4.toNatClampNeg (g 235 x4.toNatClampNeg)) else none else none
def f202_76 (K : Nat) (k12 : Int32 → zS → Option (Unit × zS)) (x1 : Int32) (x2 : Int32) (xs0 : Int32) (g : zS) : Option (Unit × zS) := f202_80 K k12 K x1 x2 xs0 0 g
def f202_75 (K : Nat) (k12 : Int32 → zS → Option (Unit × zS)) (x1 : Int32) (x2 : Int32) (g : zS) : Option (Unit × zS) := f202_76 K k12 x1 x2 0 g
def f202_71 (K : Nat) (k12 : Int32 → zS → Option (Unit × zS)) (x1 : Int32) (x2 : Int32) (g : zS) : Option (Unit × zS) := f202_76 K k12 x1 x2 1 g
def f202_12 (K : Nat) : Nat → Int32 → zS → Option (Unit × zS)
  | 0, _, _ => none
  | n + 1, x1, g => zbd (f203 K (g 222 18) g) fun r291 g290 => if r291 ≤ x1 then some ((), g290) else (zbd (f204 K x1 g290) fun _ g293 => zbd (f185 K  g293) fun r297 g296 => if r297 = 0 then f202_149 K (f202_12 K n) x1 g296 else (zbd (f205 K  g296) fun r300 g299 => if (g299 222 32) = (-1) then f202_71 K (f202_12 K n) x1 r300 g299 else if r300 < (g299 222 32) then f202_71 K (f202_12 K n) x1 r300 g299 else if ¬ r300 = (g299 222 32) then f202_75 K (f202_12 K n) x1 r300 g299 else (zbd (f206 K  g299) fun r303 g302 => if r303 = 0 then f202_75 K (f202_12 K n) x1 r300 g302 else (f202_71 K (f202_12 K n) x1 r300 g302))))
def f202 (K : Nat) (g : zS) : Option (Unit × zS) := f202_12 K K 0 (zup (zup g 222 32 (-1)) 222 33 (-1))
theorem F202_149 {L : Nat} {xs : Nat → Int32} {d : Nat} (K : Nat) (k12 : Int32 → zS → Option (Unit × zS)) (hk12 : ∀ (x1 : Int32) (g : zS) (r : Unit) (g' : zS), k12 x1 g = some (r, g') → zG2 L xs (d + 5) zm202 12 [some (.ref 222), some (.int x1), none, none, none] [] g none g') (x1 : Int32) (g : zS) (r : Unit) (g' : zS) (hE : f202_149 K k12 x1 g = some (r, g')) : zG2 L xs (d + 5) zm202 149 [some (.ref 222), some (.int x1), none, none, none] [] g none g' := by
  unfold f202_149 at hE
  refine y_iinc (v := (x1 + 1)) (ls2 := [some (.ref 222), some (.int (x1 + 1)), none, none, none]) k202_149 rfl rfl (by rw [oi_1]) rfl ?_
  refine y_goto (tgt := 12) k202_152 (by decide) ?_
  exact hk12 (x1 + 1) _ _ _ hE
theorem F202_146 {L : Nat} {xs : Nat → Int32} {d : Nat} (K : Nat) (k12 : Int32 → zS → Option (Unit × zS)) (hk12 : ∀ (x1 : Int32) (g : zS) (r : Unit) (g' : zS), k12 x1 g = some (r, g') → zG2 L xs (d + 5) zm202 12 [some (.ref 222), some (.int x1), none, none, none] [] g none g') (x1 : Int32) (xs1 : Int32) (g : zS) (r : Unit) (g' : zS) (hE : f202_146 K k12 x1 xs1 g = some (r, g')) : zG2 L xs (d + 5) zm202 146 [some (.ref 222), some (.int x1), none, none, none] [.int xs1, .ref 222] g none g' := by
  unfold f202_146 at hE
  refine y_putI k202_146 fk_10_269 sh222 rfl pi_10_33.1 pi_10_33.2 ?_
  exact F202_149 K k12 hk12 x1 _ _ _ hE
theorem F202_126 {L : Nat} {xs : Nat → Int32} {d : Nat} (K : Nat) (k12 : Int32 → zS → Option (Unit × zS)) (hk12 : ∀ (x1 : Int32) (g : zS) (r : Unit) (g' : zS), k12 x1 g = some (r, g') → zG2 L xs (d + 5) zm202 12 [some (.ref 222), some (.int x1), none, none, none] [] g none g') (x1 : Int32) (x2 : Int32) (xs1 : Int32) (g : zS) (r : Unit) (g' : zS) (hE : f202_126 K k12 x1 x2 xs1 g = some (r, g')) : zG2 L xs (d + 5) zm202 126 [some (.ref 222), some (.int x1), some (.int x2), none, none] [.int xs1, .ref 222] g none g' := by
  unfold f202_126 at hE
  refine y_putI k202_126 fk_10_266 sh222 rfl pi_10_32.1 pi_10_32.2 ?_
  refine y_aload_n k202_129 rfl rfl ?_
  refine y_iload_n k202_130 rfl ?_
  refine y_aload_n k202_131 rfl rfl ?_
  refine y_getI k202_132 fk_10_269 sh222 rfl ?_
  by_cases c286 : x2 ≤ ((zup g 222 32 xs1) 222 33)
  · rw [if_pos c286] at hE
    refine y_icT (tgt := 142) k202_135 (by decide) c286 ?_
    refine y_aload_n k202_142 rfl rfl ?_
    refine y_getI k202_143 fk_10_269 sh222 rfl ?_
    exact y_weak (ls0 := [some (.ref 222), some (.int x1), none, none, none]) ⟨rfl, rfl, rfl, rfl, rfl, trivial⟩ (F202_146 K k12 hk12 x1 ((zup g 222 32 xs1) 222 33) _ _ _ hE)
  · rw [if_neg c286] at hE
    refine y_icF 142 k202_135 (by decide) c286 ?_
    refine y_iload_n k202_138 rfl ?_
    refine y_goto (tgt := 146) k202_139 (by decide) ?_
    exact y_weak (ls0 := [some (.ref 222), some (.int x1), none, none, none]) ⟨rfl, rfl, rfl, rfl, rfl, trivial⟩ (F202_146 K k12 hk12 x1 x2 _ _ _ hE)
theorem F202_113 {L : Nat} {xs : Nat → Int32} {d : Nat} (K : Nat) (k12 : Int32 → zS → Option (Unit × zS)) (hk12 : ∀ (x1 : Int32) (g : zS) (r : Unit) (g' : zS), k12 x1 g = some (r, g') → zG2 L xs (d + 5) zm202 12 [some (.ref 222), some (.int x1), none, none, none] [] g none g') (x1 : Int32) (x2 : Int32) (x3 : Int32) (g : zS) (r : Unit) (g' : zS) (hE : f202_113 K k12 x1 x2 x3 g = some (r, g')) : zG2 L xs (d + 5) zm202 113 [some (.ref 222), some (.int x1), some (.int x2), some (.int x3), none] [] g none g' := by
  unfold f202_113 at hE
  refine y_aload_n k202_113 rfl rfl ?_
  refine y_iload_n k202_114 rfl ?_
  by_cases c287 : x3 = 0
  · rw [if_pos c287] at hE
    refine y_ifT (tgt := 122) k202_115 (by decide) c287 ?_
    refine y_aload_n k202_122 rfl rfl ?_
    refine y_getI k202_123 fk_10_266 sh222 rfl ?_
    exact y_weak (ls0 := [some (.ref 222), some (.int x1), some (.int x2), none, none]) ⟨rfl, rfl, rfl, rfl, rfl, trivial⟩ (F202_126 K k12 hk12 x1 x2 (g 222 32) _ _ _ hE)
  · rw [if_neg c287] at hE
    refine y_ifF 122 k202_115 (by decide) c287 ?_
    refine y_iload_n k202_118 rfl ?_
    refine y_goto (tgt := 126) k202_119 (by decide) ?_
    exact y_weak (ls0 := [some (.ref 222), some (.int x1), some (.int x2), none, none]) ⟨rfl, rfl, rfl, rfl, rfl, trivial⟩ (F202_126 K k12 hk12 x1 x2 x2 _ _ _ hE)
theorem F202_80 {L : Nat} {xs : Nat → Int32} {d : Nat} (K : Nat) (k12 : Int32 → zS → Option (Unit × zS)) (hk12 : ∀ (x1 : Int32) (g : zS) (r : Unit) (g' : zS), k12 x1 g = some (r, g') → zG2 L xs (d + 5) zm202 12 [some (.ref 222), some (.int x1), none, none, none] [] g none g') : ∀ (n : Nat) (x1 : Int32) (x2 : Int32) (x3 : Int32) (x4 : Int32) (g : zS) (r : Unit) (g' : zS) (hE : f202_80 K k12 n x1 x2 x3 x4 g = some (r, g')), zG2 L xs (d + 5) zm202 80 [some (.ref 222), some (.int x1), some (.int x2), some (.int x3), some (.int x4)] [] g none g' := by
  intro n
  induction n with
  | zero => intro x1 x2 x3 x4  g r g' hE; cases hE
  | succ n ih =>
    intro x1 x2 x3 x4  g r g' hE
    rw [f202_80] at hE
    refine y_iload k202_80 rfl ?_
    refine y_aload_n k202_82 rfl rfl ?_
    refine y_getI k202_83 fk_10_194 sh222 rfl ?_
    by_cases c289 : (g 222 29) ≤ x4
    · rw [if_pos c289] at hE
      refine y_icT (tgt := 113) k202_86 (by decide) c289 ?_
      exact y_weak (ls0 := [some (.ref 222), some (.int x1), some (.int x2), some (.int x3), none]) ⟨rfl, rfl, rfl, rfl, rfl, trivial⟩ (F202_113 K k12 hk12 x1 x2 x3 _ _ _ hE)
    · rw [if_neg c289] at hE
      refine y_icF 113 k202_86 (by decide) c289 ?_
      refine y_iload_n k202_89 rfl ?_
      by_cases c288 : x3 = 0
      · rw [if_pos c288] at hE
        refine y_ifT (tgt := 113) k202_90 (by decide) c288 ?_
        exact y_weak (ls0 := [some (.ref 222), some (.int x1), some (.int x2), some (.int x3), none]) ⟨rfl, rfl, rfl, rfl, rfl, trivial⟩ (F202_113 K k12 hk12 x1 x2 x3 _ _ _ hE)
      · rw [if_neg c288] at hE
        refine y_ifF 113 k202_90 (by decide) c288 ?_
        refine y_aload_n k202_93 rfl rfl ?_
        refine y_getR k202_94 fk_10_57 sh222 rfl ?_
        refine y_iload k202_97 rfl ?_
        refine y_aload_n k202_99 rfl rfl ?_
        refine y_getR k202_100 fk_10_51 sh222 rfl ?_
        refine y_iload k202_103 rfl ?_
        obtain ⟨hc, hE⟩ := zif_some hE
        refine y_iald k202_105 ar235 (zinN ln235 hc) ?_
        obtain ⟨hc, hE⟩ := zif_some hE
        refine y_iast k202_106 ar237 (zinN ln237 hc) ?_
        refine y_iinc (v := (x4 + 1)) (ls2 := [some (.ref 222), some (.int x1), some (.int x2), some (.int x3), some (.int (x4 + 1))]) k202_107 rfl rfl (by rw [oi_1]) rfl ?_
        refine y_goto (tgt := 80) k202_110 (by decide) ?_
        exact ih x1 x2 x3 (x4 + 1) _ _ _ hE
theorem F202_76 {L : Nat} {xs : Nat → Int32} {d : Nat} (K : Nat) (k12 : Int32 → zS → Option (Unit × zS)) (hk12 : ∀ (x1 : Int32) (g : zS) (r : Unit) (g' : zS), k12 x1 g = some (r, g') → zG2 L xs (d + 5) zm202 12 [some (.ref 222), some (.int x1), none, none, none] [] g none g') (x1 : Int32) (x2 : Int32) (xs0 : Int32) (g : zS) (r : Unit) (g' : zS) (hE : f202_76 K k12 x1 x2 xs0 g = some (r, g')) : zG2 L xs (d + 5) zm202 76 [some (.ref 222), some (.int x1), some (.int x2), none, none] [.int xs0] g none g' := by
  unfold f202_76 at hE
  refine y_istore_n (ls2 := [some (.ref 222), some (.int x1), some (.int x2), some (.int xs0), none]) k202_76 rfl (Nat.le_of_ble_eq_true rfl) rfl ?_
  refine y_iconst (v := 0) k202_77 oi_0 ?_
  refine y_istore (ls2 := [some (.ref 222), some (.int x1), some (.int x2), some (.int xs0), some (.int 0)]) k202_78 rfl (Nat.le_of_ble_eq_true rfl) rfl ?_
  exact F202_80 K k12 hk12 K x1 x2 xs0 0 _ _ _ hE
theorem F202_75 {L : Nat} {xs : Nat → Int32} {d : Nat} (K : Nat) (k12 : Int32 → zS → Option (Unit × zS)) (hk12 : ∀ (x1 : Int32) (g : zS) (r : Unit) (g' : zS), k12 x1 g = some (r, g') → zG2 L xs (d + 5) zm202 12 [some (.ref 222), some (.int x1), none, none, none] [] g none g') (x1 : Int32) (x2 : Int32) (g : zS) (r : Unit) (g' : zS) (hE : f202_75 K k12 x1 x2 g = some (r, g')) : zG2 L xs (d + 5) zm202 75 [some (.ref 222), some (.int x1), some (.int x2), none, none] [] g none g' := by
  unfold f202_75 at hE
  refine y_iconst (v := 0) k202_75 oi_0 ?_
  exact F202_76 K k12 hk12 x1 x2 0 _ _ _ hE
theorem F202_71 {L : Nat} {xs : Nat → Int32} {d : Nat} (K : Nat) (k12 : Int32 → zS → Option (Unit × zS)) (hk12 : ∀ (x1 : Int32) (g : zS) (r : Unit) (g' : zS), k12 x1 g = some (r, g') → zG2 L xs (d + 5) zm202 12 [some (.ref 222), some (.int x1), none, none, none] [] g none g') (x1 : Int32) (x2 : Int32) (g : zS) (r : Unit) (g' : zS) (hE : f202_71 K k12 x1 x2 g = some (r, g')) : zG2 L xs (d + 5) zm202 71 [some (.ref 222), some (.int x1), some (.int x2), none, none] [] g none g' := by
  unfold f202_71 at hE
  refine y_iconst (v := 1) k202_71 oi_1 ?_
  refine y_goto (tgt := 76) k202_72 (by decide) ?_
  exact F202_76 K k12 hk12 x1 x2 1 _ _ _ hE
theorem F202_12 {L : Nat} {xs : Nat → Int32} {d : Nat} (K : Nat) : ∀ (n : Nat) (x1 : Int32) (g : zS) (r : Unit) (g' : zS) (hE : f202_12 K n x1 g = some (r, g')), zG2 L xs (d + 5) zm202 12 [some (.ref 222), some (.int x1), none, none, none] [] g none g' := by
  intro n
  induction n with
  | zero => intro x1  g r g' hE; cases hE
  | succ n ih =>
    intro x1  g r g' hE
    rw [f202_12] at hE
    refine y_iload_n k202_12 rfl ?_
    refine y_aload_n k202_13 rfl rfl ?_
    refine y_getI k202_14 fk_10_185 sh222 rfl ?_
    obtain ⟨r291, g290, hc292, hE⟩ := zbd_some hE
    refine y_invSi (j := 203) (As := [.int (g 222 18)]) (rest := [.int x1]) (N := zm203) (F203 K (g 222 18) _ r291 g290 hc292 (d + 4)) k202_17 lk_10_263 zm203_get na203 rfl (Nat.le_of_ble_eq_true rfl) ?_
    by_cases c310 : r291 ≤ x1
    · rw [if_pos c310] at hE
      refine y_icT (tgt := 155) k202_20 (by decide) c310 ?_
      obtain ⟨rfl, rfl⟩ := zpr hE
      exact y_vret k202_155 rfl
    · rw [if_neg c310] at hE
      refine y_icF 155 k202_20 (by decide) c310 ?_
      refine y_aload_n k202_23 rfl rfl ?_
      refine y_iload_n k202_24 rfl ?_
      obtain ⟨u294, g293, hc295, hE⟩ := zbd_some hE
      refine y_invVv (j := 204) (As := [.int x1]) (rest := []) (N := zm204) (F204 K x1 _ u294 g293 hc295 (d + 3)) k202_25 lk_10_272 zm204_get na204 rfl (Nat.le_of_ble_eq_true rfl) sh222 (by decide) rfl ?_
      refine y_aload_n k202_28 rfl rfl ?_
      obtain ⟨r297, g296, hc298, hE⟩ := zbd_some hE
      refine y_invVi (j := 185) (As := []) (rest := []) (N := zm185) (F185 K  _ r297 g296 hc298 (d + 2)) k202_29 lk_10_241 zm185_get na185 rfl (Nat.le_of_ble_eq_true rfl) sh222 (by decide) rfl ?_
      by_cases c309 : r297 = 0
      · rw [if_pos c309] at hE
        refine y_ifT (tgt := 149) k202_32 (by decide) c309 ?_
        exact F202_149 K (f202_12 K n) ih x1 _ _ _ hE
      · rw [if_neg c309] at hE
        refine y_ifF 149 k202_32 (by decide) c309 ?_
        refine y_aload_n k202_35 rfl rfl ?_
        obtain ⟨r300, g299, hc301, hE⟩ := zbd_some hE
        refine y_invVi (j := 205) (As := []) (rest := []) (N := zm205) (F205 K  _ r300 g299 hc301 (d + 0)) k202_36 lk_10_275 zm205_get na205 rfl (Nat.le_of_ble_eq_true rfl) sh222 (by decide) rfl ?_
        refine y_istore_n (ls2 := [some (.ref 222), some (.int x1), some (.int r300), none, none]) k202_39 rfl (Nat.le_of_ble_eq_true rfl) rfl ?_
        refine y_aload_n k202_40 rfl rfl ?_
        refine y_getI k202_41 fk_10_266 sh222 rfl ?_
        refine y_iconst (v := (-1)) k202_44 oi_m1 ?_
        by_cases c308 : (g299 222 32) = (-1)
        · rw [if_pos c308] at hE
          refine y_icT (tgt := 71) k202_45 (by decide) c308 ?_
          exact F202_71 K (f202_12 K n) ih x1 r300 _ _ _ hE
        · rw [if_neg c308] at hE
          refine y_icF 71 k202_45 (by decide) c308 ?_
          refine y_iload_n k202_48 rfl ?_
          refine y_aload_n k202_49 rfl rfl ?_
          refine y_getI k202_50 fk_10_266 sh222 rfl ?_
          by_cases c307 : r300 < (g299 222 32)
          · rw [if_pos c307] at hE
            refine y_icT (tgt := 71) k202_53 (by decide) c307 ?_
            exact F202_71 K (f202_12 K n) ih x1 r300 _ _ _ hE
          · rw [if_neg c307] at hE
            refine y_icF 71 k202_53 (by decide) c307 ?_
            refine y_iload_n k202_56 rfl ?_
            refine y_aload_n k202_57 rfl rfl ?_
            refine y_getI k202_58 fk_10_266 sh222 rfl ?_
            by_cases c306 : ¬ r300 = (g299 222 32)
            · rw [if_pos c306] at hE
              refine y_icT (tgt := 75) k202_61 (by decide) c306 ?_
              exact F202_75 K (f202_12 K n) ih x1 r300 _ _ _ hE
            · rw [if_neg c306] at hE
              refine y_icF 75 k202_61 (by decide) c306 ?_
              refine y_aload_n k202_64 rfl rfl ?_
              obtain ⟨r303, g302, hc304, hE⟩ := zbd_some hE
              refine y_invVi (j := 206) (As := []) (rest := []) (N := zm206) (F206 K  _ r303 g302 hc304 (d + 4)) k202_65 lk_10_278 zm206_get na206 rfl (Nat.le_of_ble_eq_true rfl) sh222 (by decide) rfl ?_
              by_cases c305 : r303 = 0
              · rw [if_pos c305] at hE
                refine y_ifT (tgt := 75) k202_68 (by decide) c305 ?_
                exact F202_75 K (f202_12 K n) ih x1 r300 _ _ _ hE
              · rw [if_neg c305] at hE
                refine y_ifF 75 k202_68 (by decide) c305 ?_
                exact F202_71 K (f202_12 K n) ih x1 r300 _ _ _ hE
theorem F202 {L : Nat} {xs : Nat → Int32} (K : Nat) (g : zS) (r : Unit) (g' : zS) (hE : f202 K  g = some (r, g')) (d : Nat) : zE2 L xs (d + 6) 202 [.ref 222] g none g' := by
  refine y_ev (n := 0) (d := d + 5) (ls := [some (.ref 222), none, none, none, none]) zm202_get (by decide) (Nat.le_of_ble_eq_true rfl) rfl ?_
  unfold f202 at hE
  refine y_aload_n k202_0 rfl rfl ?_
  refine y_iconst (v := (-1)) k202_1 oi_m1 ?_
  refine y_putI k202_2 fk_10_266 sh222 rfl pi_10_32.1 pi_10_32.2 ?_
  refine y_aload_n k202_5 rfl rfl ?_
  refine y_iconst (v := (-1)) k202_6 oi_m1 ?_
  refine y_putI k202_7 fk_10_269 sh222 rfl pi_10_33.1 pi_10_33.2 ?_
  refine y_iconst (v := 0) k202_10 oi_0 ?_
  refine y_istore_n (ls2 := [some (.ref 222), some (.int 0), none, none, none]) k202_11 rfl (Nat.le_of_ble_eq_true rfl) rfl ?_
  exact F202_12 K K 0 _ _ _ hE
-- AdjectiveCouponsModel.leftOut
def f208_88 (K : Nat) (k30 : Int32 → Int32 → Int32 → Int32 → zS → Option (Int32 × zS)) (x1 : Int32) (x2 : Int32) (x3 : Int32) (x4 : Int32) (g : zS) : Option (Int32 × zS) := k30 x1 x2 x3 (x4 + 1) g
def f208_87 (K : Nat) (k30 : Int32 → Int32 → Int32 → Int32 → zS → Option (Int32 × zS)) (x1 : Int32) (x2 : Int32) (x4 : Int32) (xs0 : Int32) (g : zS) : Option (Int32 × zS) := f208_88 K k30 x1 x2 xs0 x4 g
def f208_67 (K : Nat) (k30 : Int32 → Int32 → Int32 → Int32 → zS → Option (Int32 × zS)) (x1 : Int32) (x2 : Int32) (x3 : Int32) (x4 : Int32) (g : zS) : Option (Int32 × zS) := zbd (f211 K x4 g) fun _ g214 => zbd (f205 K  g214) fun r218 g217 => if x1 < r218 then f208_87 K k30 x1 x2 x4 x3 g217 else (f208_87 K k30 x1 x2 x4 x4 g217)
def f208_30 (K : Nat) : Nat → Int32 → Int32 → Int32 → Int32 → zS → Option (Int32 × zS)
  | 0, _, _, _, _, _ => none
  | n + 1, x1, x2, x3, x4, g => if (1 <<< ((g 222 18) &&& 31)) ≤ x4 then if ¬ x2 = 0 then some (x3, g) else (zbd (f210 K x3 g) fun r222 g221 => some (r222, g221)) else (zbd (f209 K x4 g) fun r226 g225 => if r226 = 0 then f208_88 K (f208_30 K n) x1 x2 x3 x4 g225 else if x3 = (-1) then f208_67 K (f208_30 K n) x1 x2 x3 x4 g225 else (zbd (f210 K x4 g225) fun r229 g228 => zbd (f210 K x3 g228) fun r232 g231 => if r232 ≤ r229 then f208_88 K (f208_30 K n) x1 x2 x3 x4 g231 else (f208_67 K (f208_30 K n) x1 x2 x3 x4 g231)))
def f208 (K : Nat) (x1 : Int32) (x2 : Int32) (g : zS) : Option (Int32 × zS) := zbd (f146 K x1.toInt64 0 99 g) fun r239 g238 => if r239 = 0 then some ((-3), g238) else (zbd (f146 K x2.toInt64 0 1 g238) fun r242 g241 => if ¬ r242 = 0 then f208_30 K K x1 x2 (-1) 0 g241 else (some ((-3), g241)))
theorem F208_88 {L : Nat} {xs : Nat → Int32} {d : Nat} (K : Nat) (k30 : Int32 → Int32 → Int32 → Int32 → zS → Option (Int32 × zS)) (hk30 : ∀ (x1 : Int32) (x2 : Int32) (x3 : Int32) (x4 : Int32) (g : zS) (r : Int32) (g' : zS), k30 x1 x2 x3 x4 g = some (r, g') → zG2 L xs (d + 5) zm208 30 [some (.ref 222), some (.int x1), some (.int x2), some (.int x3), some (.int x4)] [] g (some (.int r)) g') (x1 : Int32) (x2 : Int32) (x3 : Int32) (x4 : Int32) (g : zS) (r : Int32) (g' : zS) (hE : f208_88 K k30 x1 x2 x3 x4 g = some (r, g')) : zG2 L xs (d + 5) zm208 88 [some (.ref 222), some (.int x1), some (.int x2), some (.int x3), some (.int x4)] [] g (some (.int r)) g' := by
  unfold f208_88 at hE
  refine y_iinc (v := (x4 + 1)) (ls2 := [some (.ref 222), some (.int x1), some (.int x2), some (.int x3), some (.int (x4 + 1))]) k208_88 rfl rfl (by rw [oi_1]) rfl ?_
  refine y_goto (tgt := 30) k208_91 (by decide) ?_
  exact hk30 x1 x2 x3 (x4 + 1) _ _ _ hE
theorem F208_87 {L : Nat} {xs : Nat → Int32} {d : Nat} (K : Nat) (k30 : Int32 → Int32 → Int32 → Int32 → zS → Option (Int32 × zS)) (hk30 : ∀ (x1 : Int32) (x2 : Int32) (x3 : Int32) (x4 : Int32) (g : zS) (r : Int32) (g' : zS), k30 x1 x2 x3 x4 g = some (r, g') → zG2 L xs (d + 5) zm208 30 [some (.ref 222), some (.int x1), some (.int x2), some (.int x3), some (.int x4)] [] g (some (.int r)) g') (x1 : Int32) (x2 : Int32) (x4 : Int32) (xs0 : Int32) (g : zS) (r : Int32) (g' : zS) (hE : f208_87 K k30 x1 x2 x4 xs0 g = some (r, g')) : zG2 L xs (d + 5) zm208 87 [some (.ref 222), some (.int x1), some (.int x2), none, some (.int x4)] [.int xs0] g (some (.int r)) g' := by
  unfold f208_87 at hE
  refine y_istore_n (ls2 := [some (.ref 222), some (.int x1), some (.int x2), some (.int xs0), some (.int x4)]) k208_87 rfl (Nat.le_of_ble_eq_true rfl) rfl ?_
  exact F208_88 K k30 hk30 x1 x2 xs0 x4 _ _ _ hE
theorem F208_67 {L : Nat} {xs : Nat → Int32} {d : Nat} (K : Nat) (k30 : Int32 → Int32 → Int32 → Int32 → zS → Option (Int32 × zS)) (hk30 : ∀ (x1 : Int32) (x2 : Int32) (x3 : Int32) (x4 : Int32) (g : zS) (r : Int32) (g' : zS), k30 x1 x2 x3 x4 g = some (r, g') → zG2 L xs (d + 5) zm208 30 [some (.ref 222), some (.int x1), some (.int x2), some (.int x3), some (.int x4)] [] g (some (.int r)) g') (x1 : Int32) (x2 : Int32) (x3 : Int32) (x4 : Int32) (g : zS) (r : Int32) (g' : zS) (hE : f208_67 K k30 x1 x2 x3 x4 g = some (r, g')) : zG2 L xs (d + 5) zm208 67 [some (.ref 222), some (.int x1), some (.int x2), some (.int x3), some (.int x4)] [] g (some (.int r)) g' := by
  unfold f208_67 at hE
  refine y_aload_n k208_67 rfl rfl ?_
  refine y_iload k208_68 rfl ?_
  obtain ⟨u215, g214, hc216, hE⟩ := zbd_some hE
  refine y_invVv (j := 211) (As := [.int x4]) (rest := []) (N := zm211) (F211 K x4 _ u215 g214 hc216 (d + 3)) k208_70 lk_10_293 zm211_get na211 rfl (Nat.le_of_ble_eq_true rfl) sh222 (by decide) rfl ?_
  refine y_aload_n k208_73 rfl rfl ?_
  obtain ⟨r218, g217, hc219, hE⟩ := zbd_some hE
  refine y_invVi (j := 205) (As := []) (rest := []) (N := zm205) (F205 K  _ r218 g217 hc219 (d + 0)) k208_74 lk_10_275 zm205_get na205 rfl (Nat.le_of_ble_eq_true rfl) sh222 (by decide) rfl ?_
  refine y_iload_n k208_77 rfl ?_
  by_cases c220 : x1 < r218
  · rw [if_pos c220] at hE
    refine y_icT (tgt := 86) k208_78 (by decide) c220 ?_
    refine y_iload_n k208_86 rfl ?_
    exact y_weak (ls0 := [some (.ref 222), some (.int x1), some (.int x2), none, some (.int x4)]) ⟨rfl, rfl, rfl, rfl, rfl, trivial⟩ (F208_87 K k30 hk30 x1 x2 x4 x3 _ _ _ hE)
  · rw [if_neg c220] at hE
    refine y_icF 86 k208_78 (by decide) c220 ?_
    refine y_iload k208_81 rfl ?_
    refine y_goto (tgt := 87) k208_83 (by decide) ?_
    exact y_weak (ls0 := [some (.ref 222), some (.int x1), some (.int x2), none, some (.int x4)]) ⟨rfl, rfl, rfl, rfl, rfl, trivial⟩ (F208_87 K k30 hk30 x1 x2 x4 x4 _ _ _ hE)
theorem F208_30 {L : Nat} {xs : Nat → Int32} {d : Nat} (K : Nat) : ∀ (n : Nat) (x1 : Int32) (x2 : Int32) (x3 : Int32) (x4 : Int32) (g : zS) (r : Int32) (g' : zS) (hE : f208_30 K n x1 x2 x3 x4 g = some (r, g')), zG2 L xs (d + 5) zm208 30 [some (.ref 222), some (.int x1), some (.int x2), some (.int x3), some (.int x4)] [] g (some (.int r)) g' := by
  intro n
  induction n with
  | zero => intro x1 x2 x3 x4  g r g' hE; cases hE
  | succ n ih =>
    intro x1 x2 x3 x4  g r g' hE
    rw [f208_30] at hE
    refine y_iload k208_30 rfl ?_
    refine y_iconst (v := 1) k208_32 oi_1 ?_
    refine y_aload_n k208_33 rfl rfl ?_
    refine y_getI k208_34 fk_10_185 sh222 rfl ?_
    refine y_ishl k208_37 ?_
    by_cases c237 : (1 <<< ((g 222 18) &&& 31)) ≤ x4
    · rw [if_pos c237] at hE
      refine y_icT (tgt := 94) k208_38 (by decide) c237 ?_
      refine y_iload_n k208_94 rfl ?_
      by_cases c224 : ¬ x2 = 0
      · rw [if_pos c224] at hE
        refine y_ifT (tgt := 105) k208_95 (by decide) c224 ?_
        refine y_iload_n k208_105 rfl ?_
        obtain ⟨rfl, rfl⟩ := zpr hE
        exact y_iret k208_106 rfl
      · rw [if_neg c224] at hE
        refine y_ifF 105 k208_95 (by decide) c224 ?_
        refine y_iload_n k208_98 rfl ?_
        obtain ⟨r222, g221, hc223, hE⟩ := zbd_some hE
        refine y_invSi (j := 210) (As := [.int x3]) (rest := []) (N := zm210) (F210 K x3 _ r222 g221 hc223 (d + 4)) k208_99 lk_10_290 zm210_get na210 rfl (Nat.le_of_ble_eq_true rfl) ?_
        refine y_goto (tgt := 106) k208_102 (by decide) ?_
        obtain ⟨rfl, rfl⟩ := zpr hE
        exact y_iret k208_106 rfl
    · rw [if_neg c237] at hE
      refine y_icF 94 k208_38 (by decide) c237 ?_
      refine y_aload_n k208_41 rfl rfl ?_
      refine y_iload k208_42 rfl ?_
      obtain ⟨r226, g225, hc227, hE⟩ := zbd_some hE
      refine y_invVi (j := 209) (As := [.int x4]) (rest := []) (N := zm209) (F209 K x4 _ r226 g225 hc227 (d + 3)) k208_44 lk_10_287 zm209_get na209 rfl (Nat.le_of_ble_eq_true rfl) sh222 (by decide) rfl ?_
      by_cases c236 : r226 = 0
      · rw [if_pos c236] at hE
        refine y_ifT (tgt := 88) k208_47 (by decide) c236 ?_
        exact F208_88 K (f208_30 K n) ih x1 x2 x3 x4 _ _ _ hE
      · rw [if_neg c236] at hE
        refine y_ifF 88 k208_47 (by decide) c236 ?_
        refine y_iload_n k208_50 rfl ?_
        refine y_iconst (v := (-1)) k208_51 oi_m1 ?_
        by_cases c235 : x3 = (-1)
        · rw [if_pos c235] at hE
          refine y_icT (tgt := 67) k208_52 (by decide) c235 ?_
          exact F208_67 K (f208_30 K n) ih x1 x2 x3 x4 _ _ _ hE
        · rw [if_neg c235] at hE
          refine y_icF 67 k208_52 (by decide) c235 ?_
          refine y_iload k208_55 rfl ?_
          obtain ⟨r229, g228, hc230, hE⟩ := zbd_some hE
          refine y_invSi (j := 210) (As := [.int x4]) (rest := []) (N := zm210) (F210 K x4 _ r229 g228 hc230 (d + 4)) k208_57 lk_10_290 zm210_get na210 rfl (Nat.le_of_ble_eq_true rfl) ?_
          refine y_iload_n k208_60 rfl ?_
          obtain ⟨r232, g231, hc233, hE⟩ := zbd_some hE
          refine y_invSi (j := 210) (As := [.int x3]) (rest := [.int r229]) (N := zm210) (F210 K x3 _ r232 g231 hc233 (d + 4)) k208_61 lk_10_290 zm210_get na210 rfl (Nat.le_of_ble_eq_true rfl) ?_
          by_cases c234 : r232 ≤ r229
          · rw [if_pos c234] at hE
            refine y_icT (tgt := 88) k208_64 (by decide) c234 ?_
            exact F208_88 K (f208_30 K n) ih x1 x2 x3 x4 _ _ _ hE
          · rw [if_neg c234] at hE
            refine y_icF 88 k208_64 (by decide) c234 ?_
            exact F208_67 K (f208_30 K n) ih x1 x2 x3 x4 _ _ _ hE
theorem F208 {L : Nat} {xs : Nat → Int32} (K : Nat) (x1 : Int32) (x2 : Int32) (g : zS) (r : Int32) (g' : zS) (hE : f208 K x1 x2 g = some (r, g')) (d : Nat) : zE2 L xs (d + 6) 208 [.ref 222, .int x1, .int x2] g (some (.int r)) g' := by
  refine y_ev (n := 0) (d := d + 5) (ls := [some (.ref 222), some (.int x1), some (.int x2), none, none]) zm208_get (by decide) (Nat.le_of_ble_eq_true rfl) rfl ?_
  unfold f208 at hE
  refine y_iload_n k208_0 rfl ?_
  refine y_i2l k208_1 ?_
  refine y_lconst (v := 0) k208_2 rfl ?_
  refine y_ldc2 (v := 99) k208_3 cl_10_261 ?_
  obtain ⟨r239, g238, hc240, hE⟩ := zbd_some hE
  refine y_invSi (j := 146) (As := [.long x1.toInt64, .long 0, .long 99]) (rest := []) (N := zm146) (F146 K x1.toInt64 0 99 _ r239 g238 hc240 (d + 4)) k208_6 lk_10_65 zm146_get na146 rfl (Nat.le_of_ble_eq_true rfl) ?_
  by_cases c245 : r239 = 0
  · rw [if_pos c245] at hE
    refine y_ifT (tgt := 22) k208_9 (by decide) c245 ?_
    refine y_bipush (v := (-3)) k208_22 b8_m3 ?_
    obtain ⟨rfl, rfl⟩ := zpr hE
    exact y_iret k208_24 rfl
  · rw [if_neg c245] at hE
    refine y_ifF 22 k208_9 (by decide) c245 ?_
    refine y_iload_n k208_12 rfl ?_
    refine y_i2l k208_13 ?_
    refine y_lconst (v := 0) k208_14 rfl ?_
    refine y_lconst (v := 1) k208_15 rfl ?_
    obtain ⟨r242, g241, hc243, hE⟩ := zbd_some hE
    refine y_invSi (j := 146) (As := [.long x2.toInt64, .long 0, .long 1]) (rest := []) (N := zm146) (F146 K x2.toInt64 0 1 _ r242 g241 hc243 (d + 4)) k208_16 lk_10_65 zm146_get na146 rfl (Nat.le_of_ble_eq_true rfl) ?_
    by_cases c244 : ¬ r242 = 0
    · rw [if_pos c244] at hE
      refine y_ifT (tgt := 25) k208_19 (by decide) c244 ?_
      refine y_iconst (v := (-1)) k208_25 oi_m1 ?_
      refine y_istore_n (ls2 := [some (.ref 222), some (.int x1), some (.int x2), some (.int (-1)), none]) k208_26 rfl (Nat.le_of_ble_eq_true rfl) rfl ?_
      refine y_iconst (v := 0) k208_27 oi_0 ?_
      refine y_istore (ls2 := [some (.ref 222), some (.int x1), some (.int x2), some (.int (-1)), some (.int 0)]) k208_28 rfl (Nat.le_of_ble_eq_true rfl) rfl ?_
      exact F208_30 K K x1 x2 (-1) 0 _ _ _ hE
    · rw [if_neg c244] at hE
      refine y_ifF 25 k208_19 (by decide) c244 ?_
      refine y_bipush (v := (-3)) k208_22 b8_m3 ?_
      obtain ⟨rfl, rfl⟩ := zpr hE
      exact y_iret k208_24 rfl
-- AdjectiveCouponsModel.holes
def f212_207 (K : Nat) : Nat → Int32 → Int32 → Int32 → zS → Option (Int32 × zS)
  | 0, _, _, _, _ => none
  | n + 1, x2, x7, x8, g => if x8 ≤ x2 then if ¬ (g 222 9) = 0 then some ((x7 - x7 / (g 222 9) * (g 222 9)), g) else none else if ¬ (g 222 9) = 0 then (f212_207 K n) x2 (x7 / (g 222 9)) (x8 + (-1)) g else none
def f212_169 (K : Nat) (k103 : Int32 → Int32 → Int32 → Int32 → Int32 → Int32 → Int32 → zS → Option (Int32 × zS)) (x1 : Int32) (x2 : Int32) (x3 : Int32) (x4 : Int32) (x6 : Int32) (x7 : Int32) (xs0 : Int32) (xs1 : Int32) (g : zS) : Option (Int32 × zS) := k103 x1 x2 x3 x4 (xs0 + xs1) x6 (x7 + 1) g
def f212_155 (K : Nat) (k103 : Int32 → Int32 → Int32 → Int32 → Int32 → Int32 → Int32 → zS → Option (Int32 × zS)) (x1 : Int32) (x2 : Int32) (x3 : Int32) (x4 : Int32) (x5 : Int32) (x7 : Int32) (x8 : Int32) (xs0 : Int32) (g : zS) : Option (Int32 × zS) := if x8 = 0 then f212_169 K k103 x1 x2 x3 x4 xs0 x7 x5 0 g else (f212_169 K k103 x1 x2 x3 x4 xs0 x7 x5 1 g)
def f212_153 (K : Nat) (k103 : Int32 → Int32 → Int32 → Int32 → Int32 → Int32 → Int32 → zS → Option (Int32 × zS)) (x1 : Int32) (x2 : Int32) (x3 : Int32) (x4 : Int32) (x5 : Int32) (x6 : Int32) (x7 : Int32) (x8 : Int32) (g : zS) : Option (Int32 × zS) := f212_155 K k103 x1 x2 x3 x4 x5 x7 x8 x6 g
def f212_136 (K : Nat) (k103 : Int32 → Int32 → Int32 → Int32 → Int32 → Int32 → Int32 → zS → Option (Int32 × zS)) (x1 : Int32) (x2 : Int32) (x3 : Int32) (x4 : Int32) (x5 : Int32) (x6 : Int32) (x7 : Int32) (xs0 : Int32) (g : zS) : Option (Int32 × zS) := if xs0 = 0 then f212_153 K k103 x1 x2 x3 x4 x5 x6 x7 xs0 g else if ¬ x5 = 0 then f212_153 K k103 x1 x2 x3 x4 x5 x6 x7 xs0 g else (f212_155 K k103 x1 x2 x3 x4 x5 x7 xs0 x7 g)
def f212_135 (K : Nat) (k103 : Int32 → Int32 → Int32 → Int32 → Int32 → Int32 → Int32 → zS → Option (Int32 × zS)) (x1 : Int32) (x2 : Int32) (x3 : Int32) (x4 : Int32) (x5 : Int32) (x6 : Int32) (x7 : Int32) (g : zS) : Option (Int32 × zS) := f212_136 K k103 x1 x2 x3 x4 x5 x6 x7 0 g
def f212_103 (K : Nat) : Nat → Int32 → Int32 → Int32 → Int32 → Int32 → Int32 → Int32 → zS → Option (Int32 × zS)
  | 0, _, _, _, _, _, _, _, _ => none
  | n + 1, x1, x2, x3, x4, x5, x6, x7, g => if x4 ≤ x7 then if ¬ x2 = (-1) then if x5 = 0 then some ((-1), g) else if x2 < x3 then f212_207 K K x2 x6 (x3 - 1) g else (some ((-1), g)) else (some (x5, g)) else (zbd (f213 K x7 g) fun _ g255 => zbd (f185 K  g255) fun r259 g258 => if r259 = 0 then f212_135 K (f212_103 K n) x1 x2 x3 x4 x5 x6 x7 g258 else (zbd (f205 K  g258) fun r262 g261 => if ¬ r262 = x1 then f212_135 K (f212_103 K n) x1 x2 x3 x4 x5 x6 x7 g261 else (f212_136 K (f212_103 K n) x1 x2 x3 x4 x5 x6 x7 1 g261)))
def f212_73 (K : Nat) : Nat → Int32 → Int32 → Int32 → Int32 → Int32 → zS → Option (Int32 × zS)
  | 0, _, _, _, _, _, _ => none
  | n + 1, x1, x2, x3, x4, x5, g => if x3 ≤ x5 then f212_103 K K x1 x2 x3 x4 0 (-1) 0 g else ((f212_73 K n) x1 x2 x3 (x4 * (g 222 9)) (x5 + 1) g)
def f212_51 (K : Nat) (k25 : Int32 → Int32 → Int32 → Int32 → zS → Option (Int32 × zS)) (x1 : Int32) (x2 : Int32) (x4 : Int32) (xs0 : Int32) (xs1 : Int32) (g : zS) : Option (Int32 × zS) := k25 x1 x2 (xs0 + xs1) (x4 + 1) g
def f212_25 (K : Nat) : Nat → Int32 → Int32 → Int32 → Int32 → zS → Option (Int32 × zS)
  | 0, _, _, _, _, _ => none
  | n + 1, x1, x2, x3, x4, g => if (g 222 18) ≤ x4 then if x3 ≤ 3 then f212_73 K K x1 x2 x3 1 0 g else (some ((-4), g)) else if zin x4 8 then if ¬ (g 232 x4.toNatClampNeg) = (-1) then f212_51 K (f212_25 K n) x1 x2 x4 x3 0 g else (f212_51 K (f212_25 K n) x1 x2 x4 x3 1 g) else none
def f212 (K : Nat) (x1 : Int32) (x2 : Int32) (g : zS) : Option (Int32 × zS) := zbd (f146 K x1.toInt64 0 99 g) fun r272 g271 => if r272 = 0 then some ((-3), g271) else if (-1) ≤ x2 then f212_25 K K x1 x2 0 0 g271 else (some ((-3), g271))
theorem F212_207 {L : Nat} {xs : Nat → Int32} {d : Nat} (K : Nat) : ∀ (n : Nat) (x2 : Int32) (x7 : Int32) (x8 : Int32) (g : zS) (r : Int32) (g' : zS) (hE : f212_207 K n x2 x7 x8 g = some (r, g')), zG2 L xs (d + 5) zm212 207 [some (.ref 222), none, some (.int x2), none, none, none, none, some (.int x7), some (.int x8)] [] g (some (.int r)) g' := by
  intro n
  induction n with
  | zero => intro x2 x7 x8  g r g' hE; cases hE
  | succ n ih =>
    intro x2 x7 x8  g r g' hE
    rw [f212_207] at hE
    refine y_iload k212_207 rfl ?_
    refine y_iload_n k212_209 rfl ?_
    by_cases c248 : x8 ≤ x2
    · rw [if_pos c248] at hE
      refine y_icT (tgt := 228) k212_210 (by decide) c248 ?_
      refine y_iload k212_228 rfl ?_
      refine y_aload_n k212_230 rfl rfl ?_
      refine y_getI k212_231 fk_10_149 sh222 rfl ?_
      obtain ⟨hc, hE⟩ := zif_some hE
      refine y_irem k212_234 hc ?_
      obtain ⟨rfl, rfl⟩ := zpr hE
      exact y_iret k212_235 rfl
    · rw [if_neg c248] at hE
      refine y_icF 228 k212_210 (by decide) c248 ?_
      refine y_iload k212_213 rfl ?_
      refine y_aload_n k212_215 rfl rfl ?_
      refine y_getI k212_216 fk_10_149 sh222 rfl ?_
      obtain ⟨hc, hE⟩ := zif_some hE
      refine y_idiv k212_219 hc ?_
      refine y_istore (ls2 := [some (.ref 222), none, some (.int x2), none, none, none, none, some (.int (x7 / (g 222 9))), some (.int x8)]) k212_220 rfl (Nat.le_of_ble_eq_true rfl) rfl ?_
      refine y_iinc (v := (x8 + (-1))) (ls2 := [some (.ref 222), none, some (.int x2), none, none, none, none, some (.int (x7 / (g 222 9))), some (.int (x8 + (-1)))]) k212_222 rfl rfl (by rw [oi_m1]) rfl ?_
      refine y_goto (tgt := 207) k212_225 (by decide) ?_
      exact ih x2 (x7 / (g 222 9)) (x8 + (-1)) _ _ _ hE
theorem F212_169 {L : Nat} {xs : Nat → Int32} {d : Nat} (K : Nat) (k103 : Int32 → Int32 → Int32 → Int32 → Int32 → Int32 → Int32 → zS → Option (Int32 × zS)) (hk103 : ∀ (x1 : Int32) (x2 : Int32) (x3 : Int32) (x4 : Int32) (x5 : Int32) (x6 : Int32) (x7 : Int32) (g : zS) (r : Int32) (g' : zS), k103 x1 x2 x3 x4 x5 x6 x7 g = some (r, g') → zG2 L xs (d + 5) zm212 103 [some (.ref 222), some (.int x1), some (.int x2), some (.int x3), some (.int x4), some (.int x5), some (.int x6), some (.int x7), none] [] g (some (.int r)) g') (x1 : Int32) (x2 : Int32) (x3 : Int32) (x4 : Int32) (x6 : Int32) (x7 : Int32) (xs0 : Int32) (xs1 : Int32) (g : zS) (r : Int32) (g' : zS) (hE : f212_169 K k103 x1 x2 x3 x4 x6 x7 xs0 xs1 g = some (r, g')) : zG2 L xs (d + 5) zm212 169 [some (.ref 222), some (.int x1), some (.int x2), some (.int x3), some (.int x4), none, some (.int x6), some (.int x7), none] [.int xs1, .int xs0] g (some (.int r)) g' := by
  unfold f212_169 at hE
  refine y_iadd k212_169 ?_
  refine y_istore (ls2 := [some (.ref 222), some (.int x1), some (.int x2), some (.int x3), some (.int x4), some (.int (xs0 + xs1)), some (.int x6), some (.int x7), none]) k212_170 rfl (Nat.le_of_ble_eq_true rfl) rfl ?_
  refine y_iinc (v := (x7 + 1)) (ls2 := [some (.ref 222), some (.int x1), some (.int x2), some (.int x3), some (.int x4), some (.int (xs0 + xs1)), some (.int x6), some (.int (x7 + 1)), none]) k212_172 rfl rfl (by rw [oi_1]) rfl ?_
  refine y_goto (tgt := 103) k212_175 (by decide) ?_
  exact hk103 x1 x2 x3 x4 (xs0 + xs1) x6 (x7 + 1) _ _ _ hE
theorem F212_155 {L : Nat} {xs : Nat → Int32} {d : Nat} (K : Nat) (k103 : Int32 → Int32 → Int32 → Int32 → Int32 → Int32 → Int32 → zS → Option (Int32 × zS)) (hk103 : ∀ (x1 : Int32) (x2 : Int32) (x3 : Int32) (x4 : Int32) (x5 : Int32) (x6 : Int32) (x7 : Int32) (g : zS) (r : Int32) (g' : zS), k103 x1 x2 x3 x4 x5 x6 x7 g = some (r, g') → zG2 L xs (d + 5) zm212 103 [some (.ref 222), some (.int x1), some (.int x2), some (.int x3), some (.int x4), some (.int x5), some (.int x6), some (.int x7), none] [] g (some (.int r)) g') (x1 : Int32) (x2 : Int32) (x3 : Int32) (x4 : Int32) (x5 : Int32) (x7 : Int32) (x8 : Int32) (xs0 : Int32) (g : zS) (r : Int32) (g' : zS) (hE : f212_155 K k103 x1 x2 x3 x4 x5 x7 x8 xs0 g = some (r, g')) : zG2 L xs (d + 5) zm212 155 [some (.ref 222), some (.int x1), some (.int x2), some (.int x3), some (.int x4), some (.int x5), none, some (.int x7), some (.int x8)] [.int xs0] g (some (.int r)) g' := by
  unfold f212_155 at hE
  refine y_istore (ls2 := [some (.ref 222), some (.int x1), some (.int x2), some (.int x3), some (.int x4), some (.int x5), some (.int xs0), some (.int x7), some (.int x8)]) k212_155 rfl (Nat.le_of_ble_eq_true rfl) rfl ?_
  refine y_iload k212_157 rfl ?_
  refine y_iload k212_159 rfl ?_
  by_cases c249 : x8 = 0
  · rw [if_pos c249] at hE
    refine y_ifT (tgt := 168) k212_161 (by decide) c249 ?_
    refine y_iconst (v := 0) k212_168 oi_0 ?_
    exact y_weak (ls0 := [some (.ref 222), some (.int x1), some (.int x2), some (.int x3), some (.int x4), none, some (.int xs0), some (.int x7), none]) ⟨rfl, rfl, rfl, rfl, rfl, rfl, rfl, rfl, rfl, trivial⟩ (F212_169 K k103 hk103 x1 x2 x3 x4 xs0 x7 x5 0 _ _ _ hE)
  · rw [if_neg c249] at hE
    refine y_ifF 168 k212_161 (by decide) c249 ?_
    refine y_iconst (v := 1) k212_164 oi_1 ?_
    refine y_goto (tgt := 169) k212_165 (by decide) ?_
    exact y_weak (ls0 := [some (.ref 222), some (.int x1), some (.int x2), some (.int x3), some (.int x4), none, some (.int xs0), some (.int x7), none]) ⟨rfl, rfl, rfl, rfl, rfl, rfl, rfl, rfl, rfl, trivial⟩ (F212_169 K k103 hk103 x1 x2 x3 x4 xs0 x7 x5 1 _ _ _ hE)
theorem F212_153 {L : Nat} {xs : Nat → Int32} {d : Nat} (K : Nat) (k103 : Int32 → Int32 → Int32 → Int32 → Int32 → Int32 → Int32 → zS → Option (Int32 × zS)) (hk103 : ∀ (x1 : Int32) (x2 : Int32) (x3 : Int32) (x4 : Int32) (x5 : Int32) (x6 : Int32) (x7 : Int32) (g : zS) (r : Int32) (g' : zS), k103 x1 x2 x3 x4 x5 x6 x7 g = some (r, g') → zG2 L xs (d + 5) zm212 103 [some (.ref 222), some (.int x1), some (.int x2), some (.int x3), some (.int x4), some (.int x5), some (.int x6), some (.int x7), none] [] g (some (.int r)) g') (x1 : Int32) (x2 : Int32) (x3 : Int32) (x4 : Int32) (x5 : Int32) (x6 : Int32) (x7 : Int32) (x8 : Int32) (g : zS) (r : Int32) (g' : zS) (hE : f212_153 K k103 x1 x2 x3 x4 x5 x6 x7 x8 g = some (r, g')) : zG2 L xs (d + 5) zm212 153 [some (.ref 222), some (.int x1), some (.int x2), some (.int x3), some (.int x4), some (.int x5), some (.int x6), some (.int x7), some (.int x8)] [] g (some (.int r)) g' := by
  unfold f212_153 at hE
  refine y_iload k212_153 rfl ?_
  exact y_weak (ls0 := [some (.ref 222), some (.int x1), some (.int x2), some (.int x3), some (.int x4), some (.int x5), none, some (.int x7), some (.int x8)]) ⟨rfl, rfl, rfl, rfl, rfl, rfl, rfl, rfl, rfl, trivial⟩ (F212_155 K k103 hk103 x1 x2 x3 x4 x5 x7 x8 x6 _ _ _ hE)
theorem F212_136 {L : Nat} {xs : Nat → Int32} {d : Nat} (K : Nat) (k103 : Int32 → Int32 → Int32 → Int32 → Int32 → Int32 → Int32 → zS → Option (Int32 × zS)) (hk103 : ∀ (x1 : Int32) (x2 : Int32) (x3 : Int32) (x4 : Int32) (x5 : Int32) (x6 : Int32) (x7 : Int32) (g : zS) (r : Int32) (g' : zS), k103 x1 x2 x3 x4 x5 x6 x7 g = some (r, g') → zG2 L xs (d + 5) zm212 103 [some (.ref 222), some (.int x1), some (.int x2), some (.int x3), some (.int x4), some (.int x5), some (.int x6), some (.int x7), none] [] g (some (.int r)) g') (x1 : Int32) (x2 : Int32) (x3 : Int32) (x4 : Int32) (x5 : Int32) (x6 : Int32) (x7 : Int32) (xs0 : Int32) (g : zS) (r : Int32) (g' : zS) (hE : f212_136 K k103 x1 x2 x3 x4 x5 x6 x7 xs0 g = some (r, g')) : zG2 L xs (d + 5) zm212 136 [some (.ref 222), some (.int x1), some (.int x2), some (.int x3), some (.int x4), some (.int x5), some (.int x6), some (.int x7), none] [.int xs0] g (some (.int r)) g' := by
  unfold f212_136 at hE
  refine y_istore (ls2 := [some (.ref 222), some (.int x1), some (.int x2), some (.int x3), some (.int x4), some (.int x5), some (.int x6), some (.int x7), some (.int xs0)]) k212_136 rfl (Nat.le_of_ble_eq_true rfl) rfl ?_
  refine y_iload k212_138 rfl ?_
  by_cases c251 : xs0 = 0
  · rw [if_pos c251] at hE
    refine y_ifT (tgt := 153) k212_140 (by decide) c251 ?_
    exact F212_153 K k103 hk103 x1 x2 x3 x4 x5 x6 x7 xs0 _ _ _ hE
  · rw [if_neg c251] at hE
    refine y_ifF 153 k212_140 (by decide) c251 ?_
    refine y_iload k212_143 rfl ?_
    by_cases c250 : ¬ x5 = 0
    · rw [if_pos c250] at hE
      refine y_ifT (tgt := 153) k212_145 (by decide) c250 ?_
      exact F212_153 K k103 hk103 x1 x2 x3 x4 x5 x6 x7 xs0 _ _ _ hE
    · rw [if_neg c250] at hE
      refine y_ifF 153 k212_145 (by decide) c250 ?_
      refine y_iload k212_148 rfl ?_
      refine y_goto (tgt := 155) k212_150 (by decide) ?_
      exact y_weak (ls0 := [some (.ref 222), some (.int x1), some (.int x2), some (.int x3), some (.int x4), some (.int x5), none, some (.int x7), some (.int xs0)]) ⟨rfl, rfl, rfl, rfl, rfl, rfl, rfl, rfl, rfl, trivial⟩ (F212_155 K k103 hk103 x1 x2 x3 x4 x5 x7 xs0 x7 _ _ _ hE)
theorem F212_135 {L : Nat} {xs : Nat → Int32} {d : Nat} (K : Nat) (k103 : Int32 → Int32 → Int32 → Int32 → Int32 → Int32 → Int32 → zS → Option (Int32 × zS)) (hk103 : ∀ (x1 : Int32) (x2 : Int32) (x3 : Int32) (x4 : Int32) (x5 : Int32) (x6 : Int32) (x7 : Int32) (g : zS) (r : Int32) (g' : zS), k103 x1 x2 x3 x4 x5 x6 x7 g = some (r, g') → zG2 L xs (d + 5) zm212 103 [some (.ref 222), some (.int x1), some (.int x2), some (.int x3), some (.int x4), some (.int x5), some (.int x6), some (.int x7), none] [] g (some (.int r)) g') (x1 : Int32) (x2 : Int32) (x3 : Int32) (x4 : Int32) (x5 : Int32) (x6 : Int32) (x7 : Int32) (g : zS) (r : Int32) (g' : zS) (hE : f212_135 K k103 x1 x2 x3 x4 x5 x6 x7 g = some (r, g')) : zG2 L xs (d + 5) zm212 135 [some (.ref 222), some (.int x1), some (.int x2), some (.int x3), some (.int x4), some (.int x5), some (.int x6), some (.int x7), none] [] g (some (.int r)) g' := by
  unfold f212_135 at hE
  refine y_iconst (v := 0) k212_135 oi_0 ?_
  exact F212_136 K k103 hk103 x1 x2 x3 x4 x5 x6 x7 0 _ _ _ hE
theorem F212_103 {L : Nat} {xs : Nat → Int32} {d : Nat} (K : Nat) : ∀ (n : Nat) (x1 : Int32) (x2 : Int32) (x3 : Int32) (x4 : Int32) (x5 : Int32) (x6 : Int32) (x7 : Int32) (g : zS) (r : Int32) (g' : zS) (hE : f212_103 K n x1 x2 x3 x4 x5 x6 x7 g = some (r, g')), zG2 L xs (d + 5) zm212 103 [some (.ref 222), some (.int x1), some (.int x2), some (.int x3), some (.int x4), some (.int x5), some (.int x6), some (.int x7), none] [] g (some (.int r)) g' := by
  intro n
  induction n with
  | zero => intro x1 x2 x3 x4 x5 x6 x7  g r g' hE; cases hE
  | succ n ih =>
    intro x1 x2 x3 x4 x5 x6 x7  g r g' hE
    rw [f212_103] at hE
    refine y_iload k212_103 rfl ?_
    refine y_iload k212_105 rfl ?_
    by_cases c266 : x4 ≤ x7
    · rw [if_pos c266] at hE
      refine y_icT (tgt := 178) k212_107 (by decide) c266 ?_
      refine y_iload_n k212_178 rfl ?_
      refine y_iconst (v := (-1)) k212_179 oi_m1 ?_
      by_cases c254 : ¬ x2 = (-1)
      · rw [if_pos c254] at hE
        refine y_icT (tgt := 186) k212_180 (by decide) c254 ?_
        refine y_iload k212_186 rfl ?_
        by_cases c253 : x5 = 0
        · rw [if_pos c253] at hE
          refine y_ifT (tgt := 196) k212_188 (by decide) c253 ?_
          refine y_iconst (v := (-1)) k212_196 oi_m1 ?_
          obtain ⟨rfl, rfl⟩ := zpr hE
          exact y_iret k212_197 rfl
        · rw [if_neg c253] at hE
          refine y_ifF 196 k212_188 (by decide) c253 ?_
          refine y_iload_n k212_191 rfl ?_
          refine y_iload_n k212_192 rfl ?_
          by_cases c252 : x2 < x3
          · rw [if_pos c252] at hE
            refine y_icT (tgt := 198) k212_193 (by decide) c252 ?_
            refine y_iload k212_198 rfl ?_
            refine y_istore (ls2 := [some (.ref 222), some (.int x1), some (.int x2), some (.int x3), some (.int x4), some (.int x5), some (.int x6), some (.int x6), none]) k212_200 rfl (Nat.le_of_ble_eq_true rfl) rfl ?_
            refine y_iload_n k212_202 rfl ?_
            refine y_iconst (v := 1) k212_203 oi_1 ?_
            refine y_isub k212_204 ?_
            refine y_istore (ls2 := [some (.ref 222), some (.int x1), some (.int x2), some (.int x3), some (.int x4), some (.int x5), some (.int x6), some (.int x6), some (.int (x3 - 1))]) k212_205 rfl (Nat.le_of_ble_eq_true rfl) rfl ?_
            exact y_weak (ls0 := [some (.ref 222), none, some (.int x2), none, none, none, none, some (.int x6), some (.int (x3 - 1))]) ⟨rfl, rfl, rfl, rfl, rfl, rfl, rfl, rfl, rfl, trivial⟩ (F212_207 K K x2 x6 (x3 - 1) _ _ _ hE)
          · rw [if_neg c252] at hE
            refine y_icF 198 k212_193 (by decide) c252 ?_
            refine y_iconst (v := (-1)) k212_196 oi_m1 ?_
            obtain ⟨rfl, rfl⟩ := zpr hE
            exact y_iret k212_197 rfl
      · rw [if_neg c254] at hE
        refine y_icF 186 k212_180 (by decide) c254 ?_
        refine y_iload k212_183 rfl ?_
        obtain ⟨rfl, rfl⟩ := zpr hE
        exact y_iret k212_185 rfl
    · rw [if_neg c266] at hE
      refine y_icF 178 k212_107 (by decide) c266 ?_
      refine y_aload_n k212_110 rfl rfl ?_
      refine y_iload k212_111 rfl ?_
      obtain ⟨u256, g255, hc257, hE⟩ := zbd_some hE
      refine y_invVv (j := 213) (As := [.int x7]) (rest := []) (N := zm213) (F213 K x7 _ u256 g255 hc257 (d + 3)) k212_113 lk_10_296 zm213_get na213 rfl (Nat.le_of_ble_eq_true rfl) sh222 (by decide) rfl ?_
      refine y_aload_n k212_116 rfl rfl ?_
      obtain ⟨r259, g258, hc260, hE⟩ := zbd_some hE
      refine y_invVi (j := 185) (As := []) (rest := []) (N := zm185) (F185 K  _ r259 g258 hc260 (d + 2)) k212_117 lk_10_241 zm185_get na185 rfl (Nat.le_of_ble_eq_true rfl) sh222 (by decide) rfl ?_
      by_cases c265 : r259 = 0
      · rw [if_pos c265] at hE
        refine y_ifT (tgt := 135) k212_120 (by decide) c265 ?_
        exact F212_135 K (f212_103 K n) ih x1 x2 x3 x4 x5 x6 x7 _ _ _ hE
      · rw [if_neg c265] at hE
        refine y_ifF 135 k212_120 (by decide) c265 ?_
        refine y_aload_n k212_123 rfl rfl ?_
        obtain ⟨r262, g261, hc263, hE⟩ := zbd_some hE
        refine y_invVi (j := 205) (As := []) (rest := []) (N := zm205) (F205 K  _ r262 g261 hc263 (d + 0)) k212_124 lk_10_275 zm205_get na205 rfl (Nat.le_of_ble_eq_true rfl) sh222 (by decide) rfl ?_
        refine y_iload_n k212_127 rfl ?_
        by_cases c264 : ¬ r262 = x1
        · rw [if_pos c264] at hE
          refine y_icT (tgt := 135) k212_128 (by decide) c264 ?_
          exact F212_135 K (f212_103 K n) ih x1 x2 x3 x4 x5 x6 x7 _ _ _ hE
        · rw [if_neg c264] at hE
          refine y_icF 135 k212_128 (by decide) c264 ?_
          refine y_iconst (v := 1) k212_131 oi_1 ?_
          refine y_goto (tgt := 136) k212_132 (by decide) ?_
          exact F212_136 K (f212_103 K n) ih x1 x2 x3 x4 x5 x6 x7 1 _ _ _ hE
theorem F212_73 {L : Nat} {xs : Nat → Int32} {d : Nat} (K : Nat) : ∀ (n : Nat) (x1 : Int32) (x2 : Int32) (x3 : Int32) (x4 : Int32) (x5 : Int32) (g : zS) (r : Int32) (g' : zS) (hE : f212_73 K n x1 x2 x3 x4 x5 g = some (r, g')), zG2 L xs (d + 5) zm212 73 [some (.ref 222), some (.int x1), some (.int x2), some (.int x3), some (.int x4), some (.int x5), none, none, none] [] g (some (.int r)) g' := by
  intro n
  induction n with
  | zero => intro x1 x2 x3 x4 x5  g r g' hE; cases hE
  | succ n ih =>
    intro x1 x2 x3 x4 x5  g r g' hE
    rw [f212_73] at hE
    refine y_iload k212_73 rfl ?_
    refine y_iload_n k212_75 rfl ?_
    by_cases c267 : x3 ≤ x5
    · rw [if_pos c267] at hE
      refine y_icT (tgt := 94) k212_76 (by decide) c267 ?_
      refine y_iconst (v := 0) k212_94 oi_0 ?_
      refine y_istore (ls2 := [some (.ref 222), some (.int x1), some (.int x2), some (.int x3), some (.int x4), some (.int 0), none, none, none]) k212_95 rfl (Nat.le_of_ble_eq_true rfl) rfl ?_
      refine y_iconst (v := (-1)) k212_97 oi_m1 ?_
      refine y_istore (ls2 := [some (.ref 222), some (.int x1), some (.int x2), some (.int x3), some (.int x4), some (.int 0), some (.int (-1)), none, none]) k212_98 rfl (Nat.le_of_ble_eq_true rfl) rfl ?_
      refine y_iconst (v := 0) k212_100 oi_0 ?_
      refine y_istore (ls2 := [some (.ref 222), some (.int x1), some (.int x2), some (.int x3), some (.int x4), some (.int 0), some (.int (-1)), some (.int 0), none]) k212_101 rfl (Nat.le_of_ble_eq_true rfl) rfl ?_
      exact F212_103 K K x1 x2 x3 x4 0 (-1) 0 _ _ _ hE
    · rw [if_neg c267] at hE
      refine y_icF 94 k212_76 (by decide) c267 ?_
      refine y_iload k212_79 rfl ?_
      refine y_aload_n k212_81 rfl rfl ?_
      refine y_getI k212_82 fk_10_149 sh222 rfl ?_
      refine y_imul k212_85 ?_
      refine y_istore (ls2 := [some (.ref 222), some (.int x1), some (.int x2), some (.int x3), some (.int (x4 * (g 222 9))), some (.int x5), none, none, none]) k212_86 rfl (Nat.le_of_ble_eq_true rfl) rfl ?_
      refine y_iinc (v := (x5 + 1)) (ls2 := [some (.ref 222), some (.int x1), some (.int x2), some (.int x3), some (.int (x4 * (g 222 9))), some (.int (x5 + 1)), none, none, none]) k212_88 rfl rfl (by rw [oi_1]) rfl ?_
      refine y_goto (tgt := 73) k212_91 (by decide) ?_
      exact ih x1 x2 x3 (x4 * (g 222 9)) (x5 + 1) _ _ _ hE
theorem F212_51 {L : Nat} {xs : Nat → Int32} {d : Nat} (K : Nat) (k25 : Int32 → Int32 → Int32 → Int32 → zS → Option (Int32 × zS)) (hk25 : ∀ (x1 : Int32) (x2 : Int32) (x3 : Int32) (x4 : Int32) (g : zS) (r : Int32) (g' : zS), k25 x1 x2 x3 x4 g = some (r, g') → zG2 L xs (d + 5) zm212 25 [some (.ref 222), some (.int x1), some (.int x2), some (.int x3), some (.int x4), none, none, none, none] [] g (some (.int r)) g') (x1 : Int32) (x2 : Int32) (x4 : Int32) (xs0 : Int32) (xs1 : Int32) (g : zS) (r : Int32) (g' : zS) (hE : f212_51 K k25 x1 x2 x4 xs0 xs1 g = some (r, g')) : zG2 L xs (d + 5) zm212 51 [some (.ref 222), some (.int x1), some (.int x2), none, some (.int x4), none, none, none, none] [.int xs1, .int xs0] g (some (.int r)) g' := by
  unfold f212_51 at hE
  refine y_iadd k212_51 ?_
  refine y_istore_n (ls2 := [some (.ref 222), some (.int x1), some (.int x2), some (.int (xs0 + xs1)), some (.int x4), none, none, none, none]) k212_52 rfl (Nat.le_of_ble_eq_true rfl) rfl ?_
  refine y_iinc (v := (x4 + 1)) (ls2 := [some (.ref 222), some (.int x1), some (.int x2), some (.int (xs0 + xs1)), some (.int (x4 + 1)), none, none, none, none]) k212_53 rfl rfl (by rw [oi_1]) rfl ?_
  refine y_goto (tgt := 25) k212_56 (by decide) ?_
  exact hk25 x1 x2 (xs0 + xs1) (x4 + 1) _ _ _ hE
theorem F212_25 {L : Nat} {xs : Nat → Int32} {d : Nat} (K : Nat) : ∀ (n : Nat) (x1 : Int32) (x2 : Int32) (x3 : Int32) (x4 : Int32) (g : zS) (r : Int32) (g' : zS) (hE : f212_25 K n x1 x2 x3 x4 g = some (r, g')), zG2 L xs (d + 5) zm212 25 [some (.ref 222), some (.int x1), some (.int x2), some (.int x3), some (.int x4), none, none, none, none] [] g (some (.int r)) g' := by
  intro n
  induction n with
  | zero => intro x1 x2 x3 x4  g r g' hE; cases hE
  | succ n ih =>
    intro x1 x2 x3 x4  g r g' hE
    rw [f212_25] at hE
    refine y_iload k212_25 rfl ?_
    refine y_aload_n k212_27 rfl rfl ?_
    refine y_getI k212_28 fk_10_185 sh222 rfl ?_
    by_cases c270 : (g 222 18) ≤ x4
    · rw [if_pos c270] at hE
      refine y_icT (tgt := 59) k212_31 (by decide) c270 ?_
      refine y_iload_n k212_59 rfl ?_
      refine y_iconst (v := 3) k212_60 oi_3 ?_
      by_cases c268 : x3 ≤ 3
      · rw [if_pos c268] at hE
        refine y_icT (tgt := 67) k212_61 (by decide) c268 ?_
        refine y_iconst (v := 1) k212_67 oi_1 ?_
        refine y_istore (ls2 := [some (.ref 222), some (.int x1), some (.int x2), some (.int x3), some (.int 1), none, none, none, none]) k212_68 rfl (Nat.le_of_ble_eq_true rfl) rfl ?_
        refine y_iconst (v := 0) k212_70 oi_0 ?_
        refine y_istore (ls2 := [some (.ref 222), some (.int x1), some (.int x2), some (.int x3), some (.int 1), some (.int 0), none, none, none]) k212_71 rfl (Nat.le_of_ble_eq_true rfl) rfl ?_
        exact F212_73 K K x1 x2 x3 1 0 _ _ _ hE
      · rw [if_neg c268] at hE
        refine y_icF 67 k212_61 (by decide) c268 ?_
        refine y_bipush (v := (-4)) k212_64 b8_m4 ?_
        obtain ⟨rfl, rfl⟩ := zpr hE
        exact y_iret k212_66 rfl
    · rw [if_neg c270] at hE
      refine y_icF 59 k212_31 (by decide) c270 ?_
      refine y_iload_n k212_34 rfl ?_
      refine y_aload_n k212_35 rfl rfl ?_
      refine y_getR k212_36 fk_10_42 sh222 rfl ?_
      refine y_iload k212_39 rfl ?_
      obtain ⟨hc, hE⟩ := zif_some hE
      refine y_iald k212_41 ar232 (zinN ln232 hc) ?_
      refine y_iconst (v := (-1)) k212_42 oi_m1 ?_
      by_cases c269 : ¬ (g 232 x4.toNatClampNeg) = (-1)
      · rw [if_pos c269] at hE
        refine y_icT (tgt := 50) k212_43 (by decide) c269 ?_
        refine y_iconst (v := 0) k212_50 oi_0 ?_
        exact y_weak (ls0 := [some (.ref 222), some (.int x1), some (.int x2), none, some (.int x4), none, none, none, none]) ⟨rfl, rfl, rfl, rfl, rfl, rfl, rfl, rfl, rfl, trivial⟩ (F212_51 K (f212_25 K n) ih x1 x2 x4 x3 0 _ _ _ hE)
      · rw [if_neg c269] at hE
        refine y_icF 50 k212_43 (by decide) c269 ?_
        refine y_iconst (v := 1) k212_46 oi_1 ?_
        refine y_goto (tgt := 51) k212_47 (by decide) ?_
        exact y_weak (ls0 := [some (.ref 222), some (.int x1), some (.int x2), none, some (.int x4), none, none, none, none]) ⟨rfl, rfl, rfl, rfl, rfl, rfl, rfl, rfl, rfl, trivial⟩ (F212_51 K (f212_25 K n) ih x1 x2 x4 x3 1 _ _ _ hE)
theorem F212 {L : Nat} {xs : Nat → Int32} (K : Nat) (x1 : Int32) (x2 : Int32) (g : zS) (r : Int32) (g' : zS) (hE : f212 K x1 x2 g = some (r, g')) (d : Nat) : zE2 L xs (d + 6) 212 [.ref 222, .int x1, .int x2] g (some (.int r)) g' := by
  refine y_ev (n := 0) (d := d + 5) (ls := [some (.ref 222), some (.int x1), some (.int x2), none, none, none, none, none, none]) zm212_get (by decide) (Nat.le_of_ble_eq_true rfl) rfl ?_
  unfold f212 at hE
  refine y_iload_n k212_0 rfl ?_
  refine y_i2l k212_1 ?_
  refine y_lconst (v := 0) k212_2 rfl ?_
  refine y_ldc2 (v := 99) k212_3 cl_10_261 ?_
  obtain ⟨r272, g271, hc273, hE⟩ := zbd_some hE
  refine y_invSi (j := 146) (As := [.long x1.toInt64, .long 0, .long 99]) (rest := []) (N := zm146) (F146 K x1.toInt64 0 99 _ r272 g271 hc273 (d + 4)) k212_6 lk_10_65 zm146_get na146 rfl (Nat.le_of_ble_eq_true rfl) ?_
  by_cases c275 : r272 = 0
  · rw [if_pos c275] at hE
    refine y_ifT (tgt := 17) k212_9 (by decide) c275 ?_
    refine y_bipush (v := (-3)) k212_17 b8_m3 ?_
    obtain ⟨rfl, rfl⟩ := zpr hE
    exact y_iret k212_19 rfl
  · rw [if_neg c275] at hE
    refine y_ifF 17 k212_9 (by decide) c275 ?_
    refine y_iload_n k212_12 rfl ?_
    refine y_iconst (v := (-1)) k212_13 oi_m1 ?_
    by_cases c274 : (-1) ≤ x2
    · rw [if_pos c274] at hE
      refine y_icT (tgt := 20) k212_14 (by decide) c274 ?_
      refine y_iconst (v := 0) k212_20 oi_0 ?_
      refine y_istore_n (ls2 := [some (.ref 222), some (.int x1), some (.int x2), some (.int 0), none, none, none, none, none]) k212_21 rfl (Nat.le_of_ble_eq_true rfl) rfl ?_
      refine y_iconst (v := 0) k212_22 oi_0 ?_
      refine y_istore (ls2 := [some (.ref 222), some (.int x1), some (.int x2), some (.int 0), some (.int 0), none, none, none, none]) k212_23 rfl (Nat.le_of_ble_eq_true rfl) rfl ?_
      exact F212_25 K K x1 x2 0 0 _ _ _ hE
    · rw [if_neg c274] at hE
      refine y_icF 20 k212_14 (by decide) c274 ?_
      refine y_bipush (v := (-3)) k212_17 b8_m3 ?_
      obtain ⟨rfl, rfl⟩ := zpr hE
      exact y_iret k212_19 rfl
-- AdjectiveCouponsModel.page
def f218_117 (K : Nat) (k30 : Int32 → Int32 → Int32 → Int32 → zS → Option (Int32 × zS)) (x1 : Int32) (x2 : Int32) (x4 : Int32) (xs0 : Int32) (g : zS) : Option (Int32 × zS) := k30 x1 x2 xs0 (x4 + 1) g
def f218_116 (K : Nat) (k30 : Int32 → Int32 → Int32 → Int32 → zS → Option (Int32 × zS)) (x1 : Int32) (x2 : Int32) (x3 : Int32) (x4 : Int32) (g : zS) : Option (Int32 × zS) := f218_117 K k30 x1 x2 x4 x3 g
def f218_82 (K : Nat) (k30 : Int32 → Int32 → Int32 → Int32 → zS → Option (Int32 × zS)) (k47 : Int32 → Int32 → Int32 → Int32 → Int32 → Int32 → zS → Option (Int32 × zS)) (x1 : Int32) (x2 : Int32) (x3 : Int32) (x4 : Int32) (x6 : Int32) (xs0 : Int32) (xs1 : Int32) (g : zS) : Option (Int32 × zS) := k47 x1 x2 x3 x4 (xs0 + xs1) (x6 + 1) g
def f218_47 (K : Nat) (k30 : Int32 → Int32 → Int32 → Int32 → zS → Option (Int32 × zS)) : Nat → Int32 → Int32 → Int32 → Int32 → Int32 → Int32 → zS → Option (Int32 × zS)
  | 0, _, _, _, _, _, _, _ => none
  | n + 1, x1, x2, x3, x4, x5, x6, g => if (g 222 21) ≤ x6 then if x1 < x5 then f218_116 K k30 x1 x2 x3 x4 g else (zbd (f219 K x4 g) fun r203 g202 => zbd (f219 K x3 g202) fun r206 g205 => if r203 ≤ r206 then f218_116 K k30 x1 x2 x3 x4 g205 else (f218_117 K k30 x1 x2 x4 x4 g205)) else (zbd (f217 K x6 g) fun _ g210 => zbd (f177 K x4 x6 g210) fun r214 g213 => if r214 = 0 then f218_82 K k30 (f218_47 K k30 n) x1 x2 x3 x4 x6 x5 0 g213 else (zbd (f205 K  g213) fun r217 g216 => f218_82 K k30 (f218_47 K k30 n) x1 x2 x3 x4 x6 x5 r217 g216))
def f218_30 (K : Nat) : Nat → Int32 → Int32 → Int32 → Int32 → zS → Option (Int32 × zS)
  | 0, _, _, _, _, _ => none
  | n + 1, x1, x2, x3, x4, g => if (1 <<< ((g 222 21) &&& 31)) ≤ x4 then if ¬ x2 = 0 then some (x3, g) else (zbd (f219 K x3 g) fun r222 g221 => some (r222, g221)) else (f218_47 K (f218_30 K n) K x1 x2 x3 x4 0 0 g)
def f218 (K : Nat) (x1 : Int32) (x2 : Int32) (g : zS) : Option (Int32 × zS) := zbd (f146 K x1.toInt64 0 99 g) fun r227 g226 => if r227 = 0 then some ((-3), g226) else (zbd (f146 K x2.toInt64 0 1 g226) fun r230 g229 => if ¬ r230 = 0 then f218_30 K K x1 x2 0 1 g229 else (some ((-3), g229)))
theorem F218_117 {L : Nat} {xs : Nat → Int32} {d : Nat} (K : Nat) (k30 : Int32 → Int32 → Int32 → Int32 → zS → Option (Int32 × zS)) (hk30 : ∀ (x1 : Int32) (x2 : Int32) (x3 : Int32) (x4 : Int32) (g : zS) (r : Int32) (g' : zS), k30 x1 x2 x3 x4 g = some (r, g') → zG2 L xs (d + 5) zm218 30 [some (.ref 222), some (.int x1), some (.int x2), some (.int x3), some (.int x4), none, none] [] g (some (.int r)) g') (x1 : Int32) (x2 : Int32) (x4 : Int32) (xs0 : Int32) (g : zS) (r : Int32) (g' : zS) (hE : f218_117 K k30 x1 x2 x4 xs0 g = some (r, g')) : zG2 L xs (d + 5) zm218 117 [some (.ref 222), some (.int x1), some (.int x2), none, some (.int x4), none, none] [.int xs0] g (some (.int r)) g' := by
  unfold f218_117 at hE
  refine y_istore_n (ls2 := [some (.ref 222), some (.int x1), some (.int x2), some (.int xs0), some (.int x4), none, none]) k218_117 rfl (Nat.le_of_ble_eq_true rfl) rfl ?_
  refine y_iinc (v := (x4 + 1)) (ls2 := [some (.ref 222), some (.int x1), some (.int x2), some (.int xs0), some (.int (x4 + 1)), none, none]) k218_118 rfl rfl (by rw [oi_1]) rfl ?_
  refine y_goto (tgt := 30) k218_121 (by decide) ?_
  exact hk30 x1 x2 xs0 (x4 + 1) _ _ _ hE
theorem F218_116 {L : Nat} {xs : Nat → Int32} {d : Nat} (K : Nat) (k30 : Int32 → Int32 → Int32 → Int32 → zS → Option (Int32 × zS)) (hk30 : ∀ (x1 : Int32) (x2 : Int32) (x3 : Int32) (x4 : Int32) (g : zS) (r : Int32) (g' : zS), k30 x1 x2 x3 x4 g = some (r, g') → zG2 L xs (d + 5) zm218 30 [some (.ref 222), some (.int x1), some (.int x2), some (.int x3), some (.int x4), none, none] [] g (some (.int r)) g') (x1 : Int32) (x2 : Int32) (x3 : Int32) (x4 : Int32) (g : zS) (r : Int32) (g' : zS) (hE : f218_116 K k30 x1 x2 x3 x4 g = some (r, g')) : zG2 L xs (d + 5) zm218 116 [some (.ref 222), some (.int x1), some (.int x2), some (.int x3), some (.int x4), none, none] [] g (some (.int r)) g' := by
  unfold f218_116 at hE
  refine y_iload_n k218_116 rfl ?_
  exact y_weak (ls0 := [some (.ref 222), some (.int x1), some (.int x2), none, some (.int x4), none, none]) ⟨rfl, rfl, rfl, rfl, rfl, rfl, rfl, trivial⟩ (F218_117 K k30 hk30 x1 x2 x4 x3 _ _ _ hE)
theorem F218_82 {L : Nat} {xs : Nat → Int32} {d : Nat} (K : Nat) (k30 : Int32 → Int32 → Int32 → Int32 → zS → Option (Int32 × zS)) (hk30 : ∀ (x1 : Int32) (x2 : Int32) (x3 : Int32) (x4 : Int32) (g : zS) (r : Int32) (g' : zS), k30 x1 x2 x3 x4 g = some (r, g') → zG2 L xs (d + 5) zm218 30 [some (.ref 222), some (.int x1), some (.int x2), some (.int x3), some (.int x4), none, none] [] g (some (.int r)) g') (k47 : Int32 → Int32 → Int32 → Int32 → Int32 → Int32 → zS → Option (Int32 × zS)) (hk47 : ∀ (x1 : Int32) (x2 : Int32) (x3 : Int32) (x4 : Int32) (x5 : Int32) (x6 : Int32) (g : zS) (r : Int32) (g' : zS), k47 x1 x2 x3 x4 x5 x6 g = some (r, g') → zG2 L xs (d + 5) zm218 47 [some (.ref 222), some (.int x1), some (.int x2), some (.int x3), some (.int x4), some (.int x5), some (.int x6)] [] g (some (.int r)) g') (x1 : Int32) (x2 : Int32) (x3 : Int32) (x4 : Int32) (x6 : Int32) (xs0 : Int32) (xs1 : Int32) (g : zS) (r : Int32) (g' : zS) (hE : f218_82 K k30 k47 x1 x2 x3 x4 x6 xs0 xs1 g = some (r, g')) : zG2 L xs (d + 5) zm218 82 [some (.ref 222), some (.int x1), some (.int x2), some (.int x3), some (.int x4), none, some (.int x6)] [.int xs1, .int xs0] g (some (.int r)) g' := by
  unfold f218_82 at hE
  refine y_iadd k218_82 ?_
  refine y_istore (ls2 := [some (.ref 222), some (.int x1), some (.int x2), some (.int x3), some (.int x4), some (.int (xs0 + xs1)), some (.int x6)]) k218_83 rfl (Nat.le_of_ble_eq_true rfl) rfl ?_
  refine y_iinc (v := (x6 + 1)) (ls2 := [some (.ref 222), some (.int x1), some (.int x2), some (.int x3), some (.int x4), some (.int (xs0 + xs1)), some (.int (x6 + 1))]) k218_85 rfl rfl (by rw [oi_1]) rfl ?_
  refine y_goto (tgt := 47) k218_88 (by decide) ?_
  exact hk47 x1 x2 x3 x4 (xs0 + xs1) (x6 + 1) _ _ _ hE
theorem F218_47 {L : Nat} {xs : Nat → Int32} {d : Nat} (K : Nat) (k30 : Int32 → Int32 → Int32 → Int32 → zS → Option (Int32 × zS)) (hk30 : ∀ (x1 : Int32) (x2 : Int32) (x3 : Int32) (x4 : Int32) (g : zS) (r : Int32) (g' : zS), k30 x1 x2 x3 x4 g = some (r, g') → zG2 L xs (d + 5) zm218 30 [some (.ref 222), some (.int x1), some (.int x2), some (.int x3), some (.int x4), none, none] [] g (some (.int r)) g') : ∀ (n : Nat) (x1 : Int32) (x2 : Int32) (x3 : Int32) (x4 : Int32) (x5 : Int32) (x6 : Int32) (g : zS) (r : Int32) (g' : zS) (hE : f218_47 K k30 n x1 x2 x3 x4 x5 x6 g = some (r, g')), zG2 L xs (d + 5) zm218 47 [some (.ref 222), some (.int x1), some (.int x2), some (.int x3), some (.int x4), some (.int x5), some (.int x6)] [] g (some (.int r)) g' := by
  intro n
  induction n with
  | zero => intro x1 x2 x3 x4 x5 x6  g r g' hE; cases hE
  | succ n ih =>
    intro x1 x2 x3 x4 x5 x6  g r g' hE
    rw [f218_47] at hE
    refine y_iload k218_47 rfl ?_
    refine y_aload_n k218_49 rfl rfl ?_
    refine y_getI k218_50 fk_10_188 sh222 rfl ?_
    by_cases c220 : (g 222 21) ≤ x6
    · rw [if_pos c220] at hE
      refine y_icT (tgt := 91) k218_53 (by decide) c220 ?_
      refine y_iload k218_91 rfl ?_
      refine y_iload_n k218_93 rfl ?_
      by_cases c209 : x1 < x5
      · rw [if_pos c209] at hE
        refine y_icT (tgt := 116) k218_94 (by decide) c209 ?_
        exact y_weak (ls0 := [some (.ref 222), some (.int x1), some (.int x2), some (.int x3), some (.int x4), none, none]) ⟨rfl, rfl, rfl, rfl, rfl, rfl, rfl, trivial⟩ (F218_116 K k30 hk30 x1 x2 x3 x4 _ _ _ hE)
      · rw [if_neg c209] at hE
        refine y_icF 116 k218_94 (by decide) c209 ?_
        refine y_aload_n k218_97 rfl rfl ?_
        refine y_iload k218_98 rfl ?_
        obtain ⟨r203, g202, hc204, hE⟩ := zbd_some hE
        refine y_invVi (j := 219) (As := [.int x4]) (rest := []) (N := zm219) (F219 K x4 _ r203 g202 hc204 (d + 3)) k218_100 lk_10_302 zm219_get na219 rfl (Nat.le_of_ble_eq_true rfl) sh222 (by decide) rfl ?_
        refine y_aload_n k218_103 rfl rfl ?_
        refine y_iload_n k218_104 rfl ?_
        obtain ⟨r206, g205, hc207, hE⟩ := zbd_some hE
        refine y_invVi (j := 219) (As := [.int x3]) (rest := [.int r203]) (N := zm219) (F219 K x3 _ r206 g205 hc207 (d + 3)) k218_105 lk_10_302 zm219_get na219 rfl (Nat.le_of_ble_eq_true rfl) sh222 (by decide) rfl ?_
        by_cases c208 : r203 ≤ r206
        · rw [if_pos c208] at hE
          refine y_icT (tgt := 116) k218_108 (by decide) c208 ?_
          exact y_weak (ls0 := [some (.ref 222), some (.int x1), some (.int x2), some (.int x3), some (.int x4), none, none]) ⟨rfl, rfl, rfl, rfl, rfl, rfl, rfl, trivial⟩ (F218_116 K k30 hk30 x1 x2 x3 x4 _ _ _ hE)
        · rw [if_neg c208] at hE
          refine y_icF 116 k218_108 (by decide) c208 ?_
          refine y_iload k218_111 rfl ?_
          refine y_goto (tgt := 117) k218_113 (by decide) ?_
          exact y_weak (ls0 := [some (.ref 222), some (.int x1), some (.int x2), none, some (.int x4), none, none]) ⟨rfl, rfl, rfl, rfl, rfl, rfl, rfl, trivial⟩ (F218_117 K k30 hk30 x1 x2 x4 x4 _ _ _ hE)
    · rw [if_neg c220] at hE
      refine y_icF 91 k218_53 (by decide) c220 ?_
      refine y_aload_n k218_56 rfl rfl ?_
      refine y_iload k218_57 rfl ?_
      obtain ⟨u211, g210, hc212, hE⟩ := zbd_some hE
      refine y_invVv (j := 217) (As := [.int x6]) (rest := []) (N := zm217) (F217 K x6 _ u211 g210 hc212 (d + 4)) k218_59 lk_10_299 zm217_get na217 rfl (Nat.le_of_ble_eq_true rfl) sh222 (by decide) rfl ?_
      refine y_iload k218_62 rfl ?_
      refine y_iload k218_64 rfl ?_
      refine y_iload k218_66 rfl ?_
      obtain ⟨r214, g213, hc215, hE⟩ := zbd_some hE
      refine y_invSi (j := 177) (As := [.int x4, .int x6]) (rest := [.int x5]) (N := zm177) (F177 K x4 x6 _ r214 g213 hc215 (d + 4)) k218_68 lk_10_203 zm177_get na177 rfl (Nat.le_of_ble_eq_true rfl) ?_
      by_cases c219 : r214 = 0
      · rw [if_pos c219] at hE
        refine y_ifT (tgt := 81) k218_71 (by decide) c219 ?_
        refine y_iconst (v := 0) k218_81 oi_0 ?_
        exact y_weak (ls0 := [some (.ref 222), some (.int x1), some (.int x2), some (.int x3), some (.int x4), none, some (.int x6)]) ⟨rfl, rfl, rfl, rfl, rfl, rfl, rfl, trivial⟩ (F218_82 K k30 hk30 (f218_47 K k30 n) ih x1 x2 x3 x4 x6 x5 0 _ _ _ hE)
      · rw [if_neg c219] at hE
        refine y_ifF 81 k218_71 (by decide) c219 ?_
        refine y_aload_n k218_74 rfl rfl ?_
        obtain ⟨r217, g216, hc218, hE⟩ := zbd_some hE
        refine y_invVi (j := 205) (As := []) (rest := [.int x5]) (N := zm205) (F205 K  _ r217 g216 hc218 (d + 0)) k218_75 lk_10_275 zm205_get na205 rfl (Nat.le_of_ble_eq_true rfl) sh222 (by decide) rfl ?_
        refine y_goto (tgt := 82) k218_78 (by decide) ?_
        exact y_weak (ls0 := [some (.ref 222), some (.int x1), some (.int x2), some (.int x3), some (.int x4), none, some (.int x6)]) ⟨rfl, rfl, rfl, rfl, rfl, rfl, rfl, trivial⟩ (F218_82 K k30 hk30 (f218_47 K k30 n) ih x1 x2 x3 x4 x6 x5 r217 _ _ _ hE)
theorem F218_30 {L : Nat} {xs : Nat → Int32} {d : Nat} (K : Nat) : ∀ (n : Nat) (x1 : Int32) (x2 : Int32) (x3 : Int32) (x4 : Int32) (g : zS) (r : Int32) (g' : zS) (hE : f218_30 K n x1 x2 x3 x4 g = some (r, g')), zG2 L xs (d + 5) zm218 30 [some (.ref 222), some (.int x1), some (.int x2), some (.int x3), some (.int x4), none, none] [] g (some (.int r)) g' := by
  intro n
  induction n with
  | zero => intro x1 x2 x3 x4  g r g' hE; cases hE
  | succ n ih =>
    intro x1 x2 x3 x4  g r g' hE
    rw [f218_30] at hE
    refine y_iload k218_30 rfl ?_
    refine y_iconst (v := 1) k218_32 oi_1 ?_
    refine y_aload_n k218_33 rfl rfl ?_
    refine y_getI k218_34 fk_10_188 sh222 rfl ?_
    refine y_ishl k218_37 ?_
    by_cases c225 : (1 <<< ((g 222 21) &&& 31)) ≤ x4
    · rw [if_pos c225] at hE
      refine y_icT (tgt := 124) k218_38 (by decide) c225 ?_
      refine y_iload_n k218_124 rfl ?_
      by_cases c224 : ¬ x2 = 0
      · rw [if_pos c224] at hE
        refine y_ifT (tgt := 136) k218_125 (by decide) c224 ?_
        refine y_iload_n k218_136 rfl ?_
        obtain ⟨rfl, rfl⟩ := zpr hE
        exact y_iret k218_137 rfl
      · rw [if_neg c224] at hE
        refine y_ifF 136 k218_125 (by decide) c224 ?_
        refine y_aload_n k218_128 rfl rfl ?_
        refine y_iload_n k218_129 rfl ?_
        obtain ⟨r222, g221, hc223, hE⟩ := zbd_some hE
        refine y_invVi (j := 219) (As := [.int x3]) (rest := []) (N := zm219) (F219 K x3 _ r222 g221 hc223 (d + 3)) k218_130 lk_10_302 zm219_get na219 rfl (Nat.le_of_ble_eq_true rfl) sh222 (by decide) rfl ?_
        refine y_goto (tgt := 137) k218_133 (by decide) ?_
        obtain ⟨rfl, rfl⟩ := zpr hE
        exact y_iret k218_137 rfl
    · rw [if_neg c225] at hE
      refine y_icF 124 k218_38 (by decide) c225 ?_
      refine y_iconst (v := 0) k218_41 oi_0 ?_
      refine y_istore (ls2 := [some (.ref 222), some (.int x1), some (.int x2), some (.int x3), some (.int x4), some (.int 0), none]) k218_42 rfl (Nat.le_of_ble_eq_true rfl) rfl ?_
      refine y_iconst (v := 0) k218_44 oi_0 ?_
      refine y_istore (ls2 := [some (.ref 222), some (.int x1), some (.int x2), some (.int x3), some (.int x4), some (.int 0), some (.int 0)]) k218_45 rfl (Nat.le_of_ble_eq_true rfl) rfl ?_
      exact F218_47 K (f218_30 K n) ih K x1 x2 x3 x4 0 0 _ _ _ hE
theorem F218 {L : Nat} {xs : Nat → Int32} (K : Nat) (x1 : Int32) (x2 : Int32) (g : zS) (r : Int32) (g' : zS) (hE : f218 K x1 x2 g = some (r, g')) (d : Nat) : zE2 L xs (d + 6) 218 [.ref 222, .int x1, .int x2] g (some (.int r)) g' := by
  refine y_ev (n := 0) (d := d + 5) (ls := [some (.ref 222), some (.int x1), some (.int x2), none, none, none, none]) zm218_get (by decide) (Nat.le_of_ble_eq_true rfl) rfl ?_
  unfold f218 at hE
  refine y_iload_n k218_0 rfl ?_
  refine y_i2l k218_1 ?_
  refine y_lconst (v := 0) k218_2 rfl ?_
  refine y_ldc2 (v := 99) k218_3 cl_10_261 ?_
  obtain ⟨r227, g226, hc228, hE⟩ := zbd_some hE
  refine y_invSi (j := 146) (As := [.long x1.toInt64, .long 0, .long 99]) (rest := []) (N := zm146) (F146 K x1.toInt64 0 99 _ r227 g226 hc228 (d + 4)) k218_6 lk_10_65 zm146_get na146 rfl (Nat.le_of_ble_eq_true rfl) ?_
  by_cases c233 : r227 = 0
  · rw [if_pos c233] at hE
    refine y_ifT (tgt := 22) k218_9 (by decide) c233 ?_
    refine y_bipush (v := (-3)) k218_22 b8_m3 ?_
    obtain ⟨rfl, rfl⟩ := zpr hE
    exact y_iret k218_24 rfl
  · rw [if_neg c233] at hE
    refine y_ifF 22 k218_9 (by decide) c233 ?_
    refine y_iload_n k218_12 rfl ?_
    refine y_i2l k218_13 ?_
    refine y_lconst (v := 0) k218_14 rfl ?_
    refine y_lconst (v := 1) k218_15 rfl ?_
    obtain ⟨r230, g229, hc231, hE⟩ := zbd_some hE
    refine y_invSi (j := 146) (As := [.long x2.toInt64, .long 0, .long 1]) (rest := []) (N := zm146) (F146 K x2.toInt64 0 1 _ r230 g229 hc231 (d + 4)) k218_16 lk_10_65 zm146_get na146 rfl (Nat.le_of_ble_eq_true rfl) ?_
    by_cases c232 : ¬ r230 = 0
    · rw [if_pos c232] at hE
      refine y_ifT (tgt := 25) k218_19 (by decide) c232 ?_
      refine y_iconst (v := 0) k218_25 oi_0 ?_
      refine y_istore_n (ls2 := [some (.ref 222), some (.int x1), some (.int x2), some (.int 0), none, none, none]) k218_26 rfl (Nat.le_of_ble_eq_true rfl) rfl ?_
      refine y_iconst (v := 1) k218_27 oi_1 ?_
      refine y_istore (ls2 := [some (.ref 222), some (.int x1), some (.int x2), some (.int 0), some (.int 1), none, none]) k218_28 rfl (Nat.le_of_ble_eq_true rfl) rfl ?_
      exact F218_30 K K x1 x2 0 1 _ _ _ hE
    · rw [if_neg c232] at hE
      refine y_ifF 25 k218_19 (by decide) c232 ?_
      refine y_bipush (v := (-3)) k218_22 b8_m3 ?_
      obtain ⟨rfl, rfl⟩ := zpr hE
      exact y_iret k218_24 rfl
-- AdjectiveCouponsModel.plan
def f220_70 (K : Nat) (k29 : Int32 → Int32 → Int32 → Int32 → zS → Option (Int32 × zS)) (x1 : Int32) (x2 : Int32) (x4 : Int32) (xs0 : Int32) (g : zS) : Option (Int32 × zS) := k29 x1 x2 xs0 (x4 + 1) g
def f220_69 (K : Nat) (k29 : Int32 → Int32 → Int32 → Int32 → zS → Option (Int32 × zS)) (x1 : Int32) (x2 : Int32) (x3 : Int32) (x4 : Int32) (g : zS) : Option (Int32 × zS) := f220_70 K k29 x1 x2 x4 x3 g
def f220_29 (K : Nat) : Nat → Int32 → Int32 → Int32 → Int32 → zS → Option (Int32 × zS)
  | 0, _, _, _, _, _ => none
  | n + 1, x1, x2, x3, x4, g => if (1 <<< ((g 222 21) &&& 31)) ≤ x4 then if ¬ x2 = 0 then some (x3, g) else (zbd (f219 K x3 g) fun r166 g165 => some (r166, g165)) else (zbd (f221 K x1 x4 g) fun r170 g169 => if r170 = 0 then f220_69 K (f220_29 K n) x1 x2 x3 x4 g169 else (zbd (f219 K x4 g169) fun r173 g172 => zbd (f219 K x3 g172) fun r176 g175 => if r173 ≤ r176 then f220_69 K (f220_29 K n) x1 x2 x3 x4 g175 else (f220_70 K (f220_29 K n) x1 x2 x4 x4 g175)))
def f220 (K : Nat) (x1 : Int32) (x2 : Int32) (g : zS) : Option (Int32 × zS) := zbd (f170 K x1 g) fun r182 g181 => if ¬ r182 = 0 then zbd (f146 K x2.toInt64 0 1 g181) fun r185 g184 => if ¬ r185 = 0 then f220_29 K K x1 x2 0 1 g184 else (some ((-3), g184)) else (some ((-2), g181))
theorem F220_70 {L : Nat} {xs : Nat → Int32} {d : Nat} (K : Nat) (k29 : Int32 → Int32 → Int32 → Int32 → zS → Option (Int32 × zS)) (hk29 : ∀ (x1 : Int32) (x2 : Int32) (x3 : Int32) (x4 : Int32) (g : zS) (r : Int32) (g' : zS), k29 x1 x2 x3 x4 g = some (r, g') → zG2 L xs (d + 5) zm220 29 [some (.ref 222), some (.int x1), some (.int x2), some (.int x3), some (.int x4)] [] g (some (.int r)) g') (x1 : Int32) (x2 : Int32) (x4 : Int32) (xs0 : Int32) (g : zS) (r : Int32) (g' : zS) (hE : f220_70 K k29 x1 x2 x4 xs0 g = some (r, g')) : zG2 L xs (d + 5) zm220 70 [some (.ref 222), some (.int x1), some (.int x2), none, some (.int x4)] [.int xs0] g (some (.int r)) g' := by
  unfold f220_70 at hE
  refine y_istore_n (ls2 := [some (.ref 222), some (.int x1), some (.int x2), some (.int xs0), some (.int x4)]) k220_70 rfl (Nat.le_of_ble_eq_true rfl) rfl ?_
  refine y_iinc (v := (x4 + 1)) (ls2 := [some (.ref 222), some (.int x1), some (.int x2), some (.int xs0), some (.int (x4 + 1))]) k220_71 rfl rfl (by rw [oi_1]) rfl ?_
  refine y_goto (tgt := 29) k220_74 (by decide) ?_
  exact hk29 x1 x2 xs0 (x4 + 1) _ _ _ hE
theorem F220_69 {L : Nat} {xs : Nat → Int32} {d : Nat} (K : Nat) (k29 : Int32 → Int32 → Int32 → Int32 → zS → Option (Int32 × zS)) (hk29 : ∀ (x1 : Int32) (x2 : Int32) (x3 : Int32) (x4 : Int32) (g : zS) (r : Int32) (g' : zS), k29 x1 x2 x3 x4 g = some (r, g') → zG2 L xs (d + 5) zm220 29 [some (.ref 222), some (.int x1), some (.int x2), some (.int x3), some (.int x4)] [] g (some (.int r)) g') (x1 : Int32) (x2 : Int32) (x3 : Int32) (x4 : Int32) (g : zS) (r : Int32) (g' : zS) (hE : f220_69 K k29 x1 x2 x3 x4 g = some (r, g')) : zG2 L xs (d + 5) zm220 69 [some (.ref 222), some (.int x1), some (.int x2), some (.int x3), some (.int x4)] [] g (some (.int r)) g' := by
  unfold f220_69 at hE
  refine y_iload_n k220_69 rfl ?_
  exact y_weak (ls0 := [some (.ref 222), some (.int x1), some (.int x2), none, some (.int x4)]) ⟨rfl, rfl, rfl, rfl, rfl, trivial⟩ (F220_70 K k29 hk29 x1 x2 x4 x3 _ _ _ hE)
theorem F220_29 {L : Nat} {xs : Nat → Int32} {d : Nat} (K : Nat) : ∀ (n : Nat) (x1 : Int32) (x2 : Int32) (x3 : Int32) (x4 : Int32) (g : zS) (r : Int32) (g' : zS) (hE : f220_29 K n x1 x2 x3 x4 g = some (r, g')), zG2 L xs (d + 5) zm220 29 [some (.ref 222), some (.int x1), some (.int x2), some (.int x3), some (.int x4)] [] g (some (.int r)) g' := by
  intro n
  induction n with
  | zero => intro x1 x2 x3 x4  g r g' hE; cases hE
  | succ n ih =>
    intro x1 x2 x3 x4  g r g' hE
    rw [f220_29] at hE
    refine y_iload k220_29 rfl ?_
    refine y_iconst (v := 1) k220_31 oi_1 ?_
    refine y_aload_n k220_32 rfl rfl ?_
    refine y_getI k220_33 fk_10_188 sh222 rfl ?_
    refine y_ishl k220_36 ?_
    by_cases c180 : (1 <<< ((g 222 21) &&& 31)) ≤ x4
    · rw [if_pos c180] at hE
      refine y_icT (tgt := 77) k220_37 (by decide) c180 ?_
      refine y_iload_n k220_77 rfl ?_
      by_cases c168 : ¬ x2 = 0
      · rw [if_pos c168] at hE
        refine y_ifT (tgt := 89) k220_78 (by decide) c168 ?_
        refine y_iload_n k220_89 rfl ?_
        obtain ⟨rfl, rfl⟩ := zpr hE
        exact y_iret k220_90 rfl
      · rw [if_neg c168] at hE
        refine y_ifF 89 k220_78 (by decide) c168 ?_
        refine y_aload_n k220_81 rfl rfl ?_
        refine y_iload_n k220_82 rfl ?_
        obtain ⟨r166, g165, hc167, hE⟩ := zbd_some hE
        refine y_invVi (j := 219) (As := [.int x3]) (rest := []) (N := zm219) (F219 K x3 _ r166 g165 hc167 (d + 3)) k220_83 lk_10_302 zm219_get na219 rfl (Nat.le_of_ble_eq_true rfl) sh222 (by decide) rfl ?_
        refine y_goto (tgt := 90) k220_86 (by decide) ?_
        obtain ⟨rfl, rfl⟩ := zpr hE
        exact y_iret k220_90 rfl
    · rw [if_neg c180] at hE
      refine y_icF 77 k220_37 (by decide) c180 ?_
      refine y_aload_n k220_40 rfl rfl ?_
      refine y_iload_n k220_41 rfl ?_
      refine y_iload k220_42 rfl ?_
      obtain ⟨r170, g169, hc171, hE⟩ := zbd_some hE
      refine y_invVi (j := 221) (As := [.int x1, .int x4]) (rest := []) (N := zm221) (F221 K x1 x4 _ r170 g169 hc171 (d + 0)) k220_44 lk_10_305 zm221_get na221 rfl (Nat.le_of_ble_eq_true rfl) sh222 (by decide) rfl ?_
      by_cases c179 : r170 = 0
      · rw [if_pos c179] at hE
        refine y_ifT (tgt := 69) k220_47 (by decide) c179 ?_
        exact F220_69 K (f220_29 K n) ih x1 x2 x3 x4 _ _ _ hE
      · rw [if_neg c179] at hE
        refine y_ifF 69 k220_47 (by decide) c179 ?_
        refine y_aload_n k220_50 rfl rfl ?_
        refine y_iload k220_51 rfl ?_
        obtain ⟨r173, g172, hc174, hE⟩ := zbd_some hE
        refine y_invVi (j := 219) (As := [.int x4]) (rest := []) (N := zm219) (F219 K x4 _ r173 g172 hc174 (d + 3)) k220_53 lk_10_302 zm219_get na219 rfl (Nat.le_of_ble_eq_true rfl) sh222 (by decide) rfl ?_
        refine y_aload_n k220_56 rfl rfl ?_
        refine y_iload_n k220_57 rfl ?_
        obtain ⟨r176, g175, hc177, hE⟩ := zbd_some hE
        refine y_invVi (j := 219) (As := [.int x3]) (rest := [.int r173]) (N := zm219) (F219 K x3 _ r176 g175 hc177 (d + 3)) k220_58 lk_10_302 zm219_get na219 rfl (Nat.le_of_ble_eq_true rfl) sh222 (by decide) rfl ?_
        by_cases c178 : r173 ≤ r176
        · rw [if_pos c178] at hE
          refine y_icT (tgt := 69) k220_61 (by decide) c178 ?_
          exact F220_69 K (f220_29 K n) ih x1 x2 x3 x4 _ _ _ hE
        · rw [if_neg c178] at hE
          refine y_icF 69 k220_61 (by decide) c178 ?_
          refine y_iload k220_64 rfl ?_
          refine y_goto (tgt := 70) k220_66 (by decide) ?_
          exact y_weak (ls0 := [some (.ref 222), some (.int x1), some (.int x2), none, some (.int x4)]) ⟨rfl, rfl, rfl, rfl, rfl, trivial⟩ (F220_70 K (f220_29 K n) ih x1 x2 x4 x4 _ _ _ hE)
theorem F220 {L : Nat} {xs : Nat → Int32} (K : Nat) (x1 : Int32) (x2 : Int32) (g : zS) (r : Int32) (g' : zS) (hE : f220 K x1 x2 g = some (r, g')) (d : Nat) : zE2 L xs (d + 6) 220 [.ref 222, .int x1, .int x2] g (some (.int r)) g' := by
  refine y_ev (n := 0) (d := d + 5) (ls := [some (.ref 222), some (.int x1), some (.int x2), none, none]) zm220_get (by decide) (Nat.le_of_ble_eq_true rfl) rfl ?_
  unfold f220 at hE
  refine y_aload_n k220_0 rfl rfl ?_
  refine y_iload_n k220_1 rfl ?_
  obtain ⟨r182, g181, hc183, hE⟩ := zbd_some hE
  refine y_invVi (j := 170) (As := [.int x1]) (rest := []) (N := zm170) (F170 K x1 _ r182 g181 hc183 (d + 3)) k220_2 lk_10_228 zm170_get na170 rfl (Nat.le_of_ble_eq_true rfl) sh222 (by decide) rfl ?_
  by_cases c188 : ¬ r182 = 0
  · rw [if_pos c188] at hE
    refine y_ifT (tgt := 11) k220_5 (by decide) c188 ?_
    refine y_iload_n k220_11 rfl ?_
    refine y_i2l k220_12 ?_
    refine y_lconst (v := 0) k220_13 rfl ?_
    refine y_lconst (v := 1) k220_14 rfl ?_
    obtain ⟨r185, g184, hc186, hE⟩ := zbd_some hE
    refine y_invSi (j := 146) (As := [.long x2.toInt64, .long 0, .long 1]) (rest := []) (N := zm146) (F146 K x2.toInt64 0 1 _ r185 g184 hc186 (d + 4)) k220_15 lk_10_65 zm146_get na146 rfl (Nat.le_of_ble_eq_true rfl) ?_
    by_cases c187 : ¬ r185 = 0
    · rw [if_pos c187] at hE
      refine y_ifT (tgt := 24) k220_18 (by decide) c187 ?_
      refine y_iconst (v := 0) k220_24 oi_0 ?_
      refine y_istore_n (ls2 := [some (.ref 222), some (.int x1), some (.int x2), some (.int 0), none]) k220_25 rfl (Nat.le_of_ble_eq_true rfl) rfl ?_
      refine y_iconst (v := 1) k220_26 oi_1 ?_
      refine y_istore (ls2 := [some (.ref 222), some (.int x1), some (.int x2), some (.int 0), some (.int 1)]) k220_27 rfl (Nat.le_of_ble_eq_true rfl) rfl ?_
      exact F220_29 K K x1 x2 0 1 _ _ _ hE
    · rw [if_neg c187] at hE
      refine y_ifF 24 k220_18 (by decide) c187 ?_
      refine y_bipush (v := (-3)) k220_21 b8_m3 ?_
      obtain ⟨rfl, rfl⟩ := zpr hE
      exact y_iret k220_23 rfl
  · rw [if_neg c188] at hE
    refine y_ifF 11 k220_5 (by decide) c188 ?_
    refine y_bipush (v := (-2)) k220_8 b8_m2 ?_
    obtain ⟨rfl, rfl⟩ := zpr hE
    exact y_iret k220_10 rfl
-- AdjectiveCouponsModel.realm
def f160_99 (K : Nat) (k36 : Int32 → zS → Option (Int32 × zS)) (x1 : Int32) (xs1 : Int32) (xs2 : Int32) (g : zS) : Option (Int32 × zS) := if zin xs1 803 then k36 (x1 + 1) (zup g 223 xs1.toNatClampNeg xs2) else none
def f160_69 (K : Nat) (k36 : Int32 → zS → Option (Int32 × zS)) (x1 : Int32) (xs0 : Int32) (g : zS) : Option (Int32 × zS) := if ¬ xs0 = 0 then if 5 ≤ x1 then f160_99 K k36 x1 x1 10 g else (f160_99 K k36 x1 x1 (2 * (g 222 15)) g) else (f160_99 K k36 x1 x1 0 g)
def f160_68 (K : Nat) (k36 : Int32 → zS → Option (Int32 × zS)) (x1 : Int32) (g : zS) : Option (Int32 × zS) := f160_69 K k36 x1 0 g
def f160_36 (K : Nat) : Nat → Int32 → zS → Option (Int32 × zS)
  | 0, _, _ => none
  | n + 1, x1, g => if 73 ≤ x1 then if zin (0 : Int32) 2 then if zin (1 : Int32) 2 then some (((zup (zup (zup (zup (zup (zup g 222 18 0) 222 21 0) 222 1 0) 224 (0 : Int32).toNatClampNeg 0) 224 (1 : Int32).toNatClampNeg 0) 222 4 0) 222 6), (zup (zup (zup (zup (zup (zup g 222 18 0) 222 21 0) 222 1 0) 224 (0 : Int32).toNatClampNeg 0) 224 (1 : Int32).toNatClampNeg 0) 222 4 0)) else none else none else if 9 ≤ x1 then f160_68 K (f160_36 K n) x1 g else if x1 ≤ 0 then f160_68 K (f160_36 K n) x1 g else if (g 222 14) ≤ ((x1 - 1) - (x1 - 1) / 4 * 4) then f160_68 K (f160_36 K n) x1 g else (f160_69 K (f160_36 K n) x1 1 g)
def f160_13 (K : Nat) : Nat → Int32 → zS → Option (Int32 × zS)
  | 0, _, _ => none
  | n + 1, x1, g => if (g 222 6) ≤ x1 then f160_36 K K 0 g else (zbd (f161 K (4 * x1) g) fun _ g165 => (f160_13 K n) (x1 + 1) g165)
def f160 (K : Nat) (g : zS) : Option (Int32 × zS) := zbd (f148 K  g) fun r170 g169 => if r170 = (-1) then f160_13 K K 0 g169 else (some ((-4), g169))
theorem F160_99 {L : Nat} {xs : Nat → Int32} {d : Nat} (K : Nat) (k36 : Int32 → zS → Option (Int32 × zS)) (hk36 : ∀ (x1 : Int32) (g : zS) (r : Int32) (g' : zS), k36 x1 g = some (r, g') → zG2 L xs (d + 6) zm160 36 [some (.ref 222), some (.int x1), none] [] g (some (.int r)) g') (x1 : Int32) (xs1 : Int32) (xs2 : Int32) (g : zS) (r : Int32) (g' : zS) (hE : f160_99 K k36 x1 xs1 xs2 g = some (r, g')) : zG2 L xs (d + 6) zm160 99 [some (.ref 222), some (.int x1), none] [.int xs2, .int xs1, .ref 223] g (some (.int r)) g' := by
  unfold f160_99 at hE
  obtain ⟨hc, hE⟩ := zif_some hE
  refine y_iast k160_99 ar223 (zinN ln223 hc) ?_
  refine y_iinc (v := (x1 + 1)) (ls2 := [some (.ref 222), some (.int (x1 + 1)), none]) k160_100 rfl rfl (by rw [oi_1]) rfl ?_
  refine y_goto (tgt := 36) k160_103 (by decide) ?_
  exact hk36 (x1 + 1) _ _ _ hE
theorem F160_69 {L : Nat} {xs : Nat → Int32} {d : Nat} (K : Nat) (k36 : Int32 → zS → Option (Int32 × zS)) (hk36 : ∀ (x1 : Int32) (g : zS) (r : Int32) (g' : zS), k36 x1 g = some (r, g') → zG2 L xs (d + 6) zm160 36 [some (.ref 222), some (.int x1), none] [] g (some (.int r)) g') (x1 : Int32) (xs0 : Int32) (g : zS) (r : Int32) (g' : zS) (hE : f160_69 K k36 x1 xs0 g = some (r, g')) : zG2 L xs (d + 6) zm160 69 [some (.ref 222), some (.int x1), none] [.int xs0] g (some (.int r)) g' := by
  unfold f160_69 at hE
  refine y_istore_n (ls2 := [some (.ref 222), some (.int x1), some (.int xs0)]) k160_69 rfl (Nat.le_of_ble_eq_true rfl) rfl ?_
  refine y_aload_n k160_70 rfl rfl ?_
  refine y_getR k160_71 fk_10_7 sh222 rfl ?_
  refine y_iload_n k160_74 rfl ?_
  refine y_iload_n k160_75 rfl ?_
  by_cases c160 : ¬ xs0 = 0
  · rw [if_pos c160] at hE
    refine y_ifT (tgt := 83) k160_76 (by decide) c160 ?_
    refine y_iload_n k160_83 rfl ?_
    refine y_iconst (v := 5) k160_84 oi_5 ?_
    by_cases c159 : 5 ≤ x1
    · rw [if_pos c159] at hE
      refine y_icT (tgt := 97) k160_85 (by decide) c159 ?_
      refine y_bipush (v := 10) k160_97 b8_10 ?_
      exact y_weak (ls0 := [some (.ref 222), some (.int x1), none]) ⟨rfl, rfl, rfl, trivial⟩ (F160_99 K k36 hk36 x1 x1 10 _ _ _ hE)
    · rw [if_neg c159] at hE
      refine y_icF 97 k160_85 (by decide) c159 ?_
      refine y_iconst (v := 2) k160_88 oi_2 ?_
      refine y_aload_n k160_89 rfl rfl ?_
      refine y_getI k160_90 fk_10_38 sh222 rfl ?_
      refine y_imul k160_93 ?_
      refine y_goto (tgt := 99) k160_94 (by decide) ?_
      exact y_weak (ls0 := [some (.ref 222), some (.int x1), none]) ⟨rfl, rfl, rfl, trivial⟩ (F160_99 K k36 hk36 x1 x1 (2 * (g 222 15)) _ _ _ hE)
  · rw [if_neg c160] at hE
    refine y_ifF 83 k160_76 (by decide) c160 ?_
    refine y_iconst (v := 0) k160_79 oi_0 ?_
    refine y_goto (tgt := 99) k160_80 (by decide) ?_
    exact y_weak (ls0 := [some (.ref 222), some (.int x1), none]) ⟨rfl, rfl, rfl, trivial⟩ (F160_99 K k36 hk36 x1 x1 0 _ _ _ hE)
theorem F160_68 {L : Nat} {xs : Nat → Int32} {d : Nat} (K : Nat) (k36 : Int32 → zS → Option (Int32 × zS)) (hk36 : ∀ (x1 : Int32) (g : zS) (r : Int32) (g' : zS), k36 x1 g = some (r, g') → zG2 L xs (d + 6) zm160 36 [some (.ref 222), some (.int x1), none] [] g (some (.int r)) g') (x1 : Int32) (g : zS) (r : Int32) (g' : zS) (hE : f160_68 K k36 x1 g = some (r, g')) : zG2 L xs (d + 6) zm160 68 [some (.ref 222), some (.int x1), none] [] g (some (.int r)) g' := by
  unfold f160_68 at hE
  refine y_iconst (v := 0) k160_68 oi_0 ?_
  exact F160_69 K k36 hk36 x1 0 _ _ _ hE
theorem F160_36 {L : Nat} {xs : Nat → Int32} {d : Nat} (K : Nat) : ∀ (n : Nat) (x1 : Int32) (g : zS) (r : Int32) (g' : zS) (hE : f160_36 K n x1 g = some (r, g')), zG2 L xs (d + 6) zm160 36 [some (.ref 222), some (.int x1), none] [] g (some (.int r)) g' := by
  intro n
  induction n with
  | zero => intro x1  g r g' hE; cases hE
  | succ n ih =>
    intro x1  g r g' hE
    rw [f160_36] at hE
    refine y_iload_n k160_36 rfl ?_
    refine y_bipush (v := 73) k160_37 b8_73 ?_
    by_cases c164 : 73 ≤ x1
    · rw [if_pos c164] at hE
      refine y_icT (tgt := 106) k160_39 (by decide) c164 ?_
      refine y_aload_n k160_106 rfl rfl ?_
      refine y_iconst (v := 0) k160_107 oi_0 ?_
      refine y_putI k160_108 fk_10_185 sh222 rfl pi_10_18.1 pi_10_18.2 ?_
      refine y_aload_n k160_111 rfl rfl ?_
      refine y_iconst (v := 0) k160_112 oi_0 ?_
      refine y_putI k160_113 fk_10_188 sh222 rfl pi_10_21.1 pi_10_21.2 ?_
      refine y_aload_n k160_116 rfl rfl ?_
      refine y_iconst (v := 0) k160_117 oi_0 ?_
      refine y_putI k160_118 fk_10_191 sh222 rfl pi_10_1.1 pi_10_1.2 ?_
      refine y_aload_n k160_121 rfl rfl ?_
      refine y_getR k160_122 fk_10_13 sh222 rfl ?_
      refine y_iconst (v := 0) k160_125 oi_0 ?_
      refine y_iconst (v := 0) k160_126 oi_0 ?_
      obtain ⟨hc, hE⟩ := zif_some hE
      refine y_bast k160_127 bo224 (zinN ln224 hc) (by decide) ?_
      refine y_aload_n k160_128 rfl rfl ?_
      refine y_getR k160_129 fk_10_13 sh222 rfl ?_
      refine y_iconst (v := 1) k160_132 oi_1 ?_
      refine y_iconst (v := 0) k160_133 oi_0 ?_
      obtain ⟨hc, hE⟩ := zif_some hE
      refine y_bast k160_134 bo224 (zinN ln224 hc) (by decide) ?_
      refine y_aload_n k160_135 rfl rfl ?_
      refine y_iconst (v := 0) k160_136 oi_0 ?_
      refine y_putI k160_137 fk_10_69 sh222 rfl pi_10_4.1 pi_10_4.2 ?_
      refine y_aload_n k160_140 rfl rfl ?_
      refine y_getI k160_141 fk_10_112 sh222 rfl ?_
      obtain ⟨rfl, rfl⟩ := zpr hE
      exact y_iret k160_144 rfl
    · rw [if_neg c164] at hE
      refine y_icF 106 k160_39 (by decide) c164 ?_
      refine y_iload_n k160_42 rfl ?_
      refine y_bipush (v := 9) k160_43 b8_9 ?_
      by_cases c163 : 9 ≤ x1
      · rw [if_pos c163] at hE
        refine y_icT (tgt := 68) k160_45 (by decide) c163 ?_
        exact F160_68 K (f160_36 K n) ih x1 _ _ _ hE
      · rw [if_neg c163] at hE
        refine y_icF 68 k160_45 (by decide) c163 ?_
        refine y_iload_n k160_48 rfl ?_
        by_cases c162 : x1 ≤ 0
        · rw [if_pos c162] at hE
          refine y_ifT (tgt := 68) k160_49 (by decide) c162 ?_
          exact F160_68 K (f160_36 K n) ih x1 _ _ _ hE
        · rw [if_neg c162] at hE
          refine y_ifF 68 k160_49 (by decide) c162 ?_
          refine y_iload_n k160_52 rfl ?_
          refine y_iconst (v := 1) k160_53 oi_1 ?_
          refine y_isub k160_54 ?_
          refine y_iconst (v := 4) k160_55 oi_4 ?_
          refine y_irem k160_56 (by decide) ?_
          refine y_aload_n k160_57 rfl rfl ?_
          refine y_getI k160_58 fk_10_155 sh222 rfl ?_
          by_cases c161 : (g 222 14) ≤ ((x1 - 1) - (x1 - 1) / 4 * 4)
          · rw [if_pos c161] at hE
            refine y_icT (tgt := 68) k160_61 (by decide) c161 ?_
            exact F160_68 K (f160_36 K n) ih x1 _ _ _ hE
          · rw [if_neg c161] at hE
            refine y_icF 68 k160_61 (by decide) c161 ?_
            refine y_iconst (v := 1) k160_64 oi_1 ?_
            refine y_goto (tgt := 69) k160_65 (by decide) ?_
            exact F160_69 K (f160_36 K n) ih x1 1 _ _ _ hE
theorem F160_13 {L : Nat} {xs : Nat → Int32} {d : Nat} (K : Nat) : ∀ (n : Nat) (x1 : Int32) (g : zS) (r : Int32) (g' : zS) (hE : f160_13 K n x1 g = some (r, g')), zG2 L xs (d + 6) zm160 13 [some (.ref 222), some (.int x1), none] [] g (some (.int r)) g' := by
  intro n
  induction n with
  | zero => intro x1  g r g' hE; cases hE
  | succ n ih =>
    intro x1  g r g' hE
    rw [f160_13] at hE
    refine y_iload_n k160_13 rfl ?_
    refine y_aload_n k160_14 rfl rfl ?_
    refine y_getI k160_15 fk_10_112 sh222 rfl ?_
    by_cases c168 : (g 222 6) ≤ x1
    · rw [if_pos c168] at hE
      refine y_icT (tgt := 34) k160_18 (by decide) c168 ?_
      refine y_iconst (v := 0) k160_34 oi_0 ?_
      refine y_istore_n (ls2 := [some (.ref 222), some (.int 0), none]) k160_35 rfl (Nat.le_of_ble_eq_true rfl) rfl ?_
      exact F160_36 K K 0 _ _ _ hE
    · rw [if_neg c168] at hE
      refine y_icF 34 k160_18 (by decide) c168 ?_
      refine y_aload_n k160_21 rfl rfl ?_
      refine y_iconst (v := 4) k160_22 oi_4 ?_
      refine y_iload_n k160_23 rfl ?_
      refine y_imul k160_24 ?_
      obtain ⟨u166, g165, hc167, hE⟩ := zbd_some hE
      refine y_invVv (j := 161) (As := [.int (4 * x1)]) (rest := []) (N := zm161) (F161 K (4 * x1) _ u166 g165 hc167 (d + 3)) k160_25 lk_10_182 zm161_get na161 rfl (Nat.le_of_ble_eq_true rfl) sh222 (by decide) rfl ?_
      refine y_iinc (v := (x1 + 1)) (ls2 := [some (.ref 222), some (.int (x1 + 1)), none]) k160_28 rfl rfl (by rw [oi_1]) rfl ?_
      refine y_goto (tgt := 13) k160_31 (by decide) ?_
      exact ih (x1 + 1) _ _ _ hE
theorem F160 {L : Nat} {xs : Nat → Int32} (K : Nat) (g : zS) (r : Int32) (g' : zS) (hE : f160 K  g = some (r, g')) (d : Nat) : zE2 L xs (d + 7) 160 [.ref 222] g (some (.int r)) g' := by
  refine y_ev (n := 0) (d := d + 6) (ls := [some (.ref 222), none, none]) zm160_get (by decide) (Nat.le_of_ble_eq_true rfl) rfl ?_
  unfold f160 at hE
  refine y_aload_n k160_0 rfl rfl ?_
  obtain ⟨r170, g169, hc171, hE⟩ := zbd_some hE
  refine y_invVi (j := 148) (As := []) (rest := []) (N := zm148) (F148 K  _ r170 g169 hc171 (d + 0)) k160_1 lk_10_179 zm148_get na148 rfl (Nat.le_of_ble_eq_true rfl) sh222 (by decide) rfl ?_
  refine y_iconst (v := (-1)) k160_4 oi_m1 ?_
  by_cases c172 : r170 = (-1)
  · rw [if_pos c172] at hE
    refine y_icT (tgt := 11) k160_5 (by decide) c172 ?_
    refine y_iconst (v := 0) k160_11 oi_0 ?_
    refine y_istore_n (ls2 := [some (.ref 222), some (.int 0), none]) k160_12 rfl (Nat.le_of_ble_eq_true rfl) rfl ?_
    exact F160_13 K K 0 _ _ _ hE
  · rw [if_neg c172] at hE
    refine y_icF 11 k160_5 (by decide) c172 ?_
    refine y_bipush (v := (-4)) k160_8 b8_m4 ?_
    obtain ⟨rfl, rfl⟩ := zpr hE
    exact y_iret k160_10 rfl
-- AdjectiveCouponsModel.cheapest
def f200 (K : Nat) (x1 : Int32) (g : zS) : Option (Int32 × zS) := if (-1) ≤ x1 then zbd (f201 K  g) fun r113 g112 => if ¬ r113 = 0 then zbd (f202 K  g112) fun _ g115 => if (g115 222 32) = (-1) then some ((g115 222 32), g115) else if ¬ x1 = (-1) then if (g115 222 18) ≤ x1 then some ((-1), g115) else if zin x1 8 then some ((g115 237 x1.toNatClampNeg), g115) else none else (some ((g115 222 32), g115)) else (some ((-4), g112)) else (some ((-3), g))
theorem F200 {L : Nat} {xs : Nat → Int32} (K : Nat) (x1 : Int32) (g : zS) (r : Int32) (g' : zS) (hE : f200 K x1 g = some (r, g')) (d : Nat) : zE2 L xs (d + 7) 200 [.ref 222, .int x1] g (some (.int r)) g' := by
  refine y_ev (n := 0) (d := d + 6) (ls := [some (.ref 222), some (.int x1)]) zm200_get (by decide) (Nat.le_of_ble_eq_true rfl) rfl ?_
  unfold f200 at hE
  refine y_iload_n k200_0 rfl ?_
  refine y_iconst (v := (-1)) k200_1 oi_m1 ?_
  by_cases c122 : (-1) ≤ x1
  · rw [if_pos c122] at hE
    refine y_icT (tgt := 8) k200_2 (by decide) c122 ?_
    refine y_aload_n k200_8 rfl rfl ?_
    obtain ⟨r113, g112, hc114, hE⟩ := zbd_some hE
    refine y_invVi (j := 201) (As := []) (rest := []) (N := zm201) (F201 K  _ r113 g112 hc114 (d + 4)) k200_9 lk_10_281 zm201_get na201 rfl (Nat.le_of_ble_eq_true rfl) sh222 (by decide) rfl ?_
    by_cases c121 : ¬ r113 = 0
    · rw [if_pos c121] at hE
      refine y_ifT (tgt := 18) k200_12 (by decide) c121 ?_
      refine y_aload_n k200_18 rfl rfl ?_
      obtain ⟨u116, g115, hc117, hE⟩ := zbd_some hE
      refine y_invVv (j := 202) (As := []) (rest := []) (N := zm202) (F202 K  _ u116 g115 hc117 (d + 0)) k200_19 lk_10_284 zm202_get na202 rfl (Nat.le_of_ble_eq_true rfl) sh222 (by decide) rfl ?_
      refine y_aload_n k200_22 rfl rfl ?_
      refine y_getI k200_23 fk_10_266 sh222 rfl ?_
      refine y_iconst (v := (-1)) k200_26 oi_m1 ?_
      by_cases c120 : (g115 222 32) = (-1)
      · rw [if_pos c120] at hE
        refine y_icT (tgt := 35) k200_27 (by decide) c120 ?_
        refine y_aload_n k200_35 rfl rfl ?_
        refine y_getI k200_36 fk_10_266 sh222 rfl ?_
        refine y_goto (tgt := 60) k200_39 (by decide) ?_
        obtain ⟨rfl, rfl⟩ := zpr hE
        exact y_iret k200_60 rfl
      · rw [if_neg c120] at hE
        refine y_icF 35 k200_27 (by decide) c120 ?_
        refine y_iload_n k200_30 rfl ?_
        refine y_iconst (v := (-1)) k200_31 oi_m1 ?_
        by_cases c119 : ¬ x1 = (-1)
        · rw [if_pos c119] at hE
          refine y_icT (tgt := 42) k200_32 (by decide) c119 ?_
          refine y_iload_n k200_42 rfl ?_
          refine y_aload_n k200_43 rfl rfl ?_
          refine y_getI k200_44 fk_10_185 sh222 rfl ?_
          by_cases c118 : (g115 222 18) ≤ x1
          · rw [if_pos c118] at hE
            refine y_icT (tgt := 59) k200_47 (by decide) c118 ?_
            refine y_iconst (v := (-1)) k200_59 oi_m1 ?_
            obtain ⟨rfl, rfl⟩ := zpr hE
            exact y_iret k200_60 rfl
          · rw [if_neg c118] at hE
            refine y_icF 59 k200_47 (by decide) c118 ?_
            refine y_aload_n k200_50 rfl rfl ?_
            refine y_getR k200_51 fk_10_57 sh222 rfl ?_
            refine y_iload_n k200_54 rfl ?_
            obtain ⟨hc, hE⟩ := zif_some hE
            refine y_iald k200_55 ar237 (zinN ln237 hc) ?_
            refine y_goto (tgt := 60) k200_56 (by decide) ?_
            obtain ⟨rfl, rfl⟩ := zpr hE
            exact y_iret k200_60 rfl
        · rw [if_neg c119] at hE
          refine y_icF 42 k200_32 (by decide) c119 ?_
          refine y_aload_n k200_35 rfl rfl ?_
          refine y_getI k200_36 fk_10_266 sh222 rfl ?_
          refine y_goto (tgt := 60) k200_39 (by decide) ?_
          obtain ⟨rfl, rfl⟩ := zpr hE
          exact y_iret k200_60 rfl
    · rw [if_neg c121] at hE
      refine y_ifF 18 k200_12 (by decide) c121 ?_
      refine y_bipush (v := (-4)) k200_15 b8_m4 ?_
      obtain ⟨rfl, rfl⟩ := zpr hE
      exact y_iret k200_17 rfl
  · rw [if_neg c122] at hE
    refine y_icF 8 k200_2 (by decide) c122 ?_
    refine y_bipush (v := (-3)) k200_5 b8_m3 ?_
    obtain ⟨rfl, rfl⟩ := zpr hE
    exact y_iret k200_7 rfl
-- AdjectiveCouponsModel.loophole
def f207 (K : Nat) (g : zS) : Option (Int32 × zS) := zbd (f201 K  g) fun r110 g109 => if ¬ r110 = 0 then zbd (f202 K  g109) fun _ g112 => if ¬ (g112 222 32) = (-1) then some (((g112 222 33) - (g112 222 32)), g112) else (some ((-1), g112)) else (some ((-4), g109))
theorem F207 {L : Nat} {xs : Nat → Int32} (K : Nat) (g : zS) (r : Int32) (g' : zS) (hE : f207 K  g = some (r, g')) (d : Nat) : zE2 L xs (d + 7) 207 [.ref 222] g (some (.int r)) g' := by
  refine y_ev (n := 0) (d := d + 6) (ls := [some (.ref 222)]) zm207_get (by decide) (Nat.le_of_ble_eq_true rfl) rfl ?_
  unfold f207 at hE
  refine y_aload_n k207_0 rfl rfl ?_
  obtain ⟨r110, g109, hc111, hE⟩ := zbd_some hE
  refine y_invVi (j := 201) (As := []) (rest := []) (N := zm201) (F201 K  _ r110 g109 hc111 (d + 4)) k207_1 lk_10_281 zm201_get na201 rfl (Nat.le_of_ble_eq_true rfl) sh222 (by decide) rfl ?_
  by_cases c116 : ¬ r110 = 0
  · rw [if_pos c116] at hE
    refine y_ifT (tgt := 10) k207_4 (by decide) c116 ?_
    refine y_aload_n k207_10 rfl rfl ?_
    obtain ⟨u113, g112, hc114, hE⟩ := zbd_some hE
    refine y_invVv (j := 202) (As := []) (rest := []) (N := zm202) (F202 K  _ u113 g112 hc114 (d + 0)) k207_11 lk_10_284 zm202_get na202 rfl (Nat.le_of_ble_eq_true rfl) sh222 (by decide) rfl ?_
    refine y_aload_n k207_14 rfl rfl ?_
    refine y_getI k207_15 fk_10_266 sh222 rfl ?_
    refine y_iconst (v := (-1)) k207_18 oi_m1 ?_
    by_cases c115 : ¬ (g112 222 32) = (-1)
    · rw [if_pos c115] at hE
      refine y_icT (tgt := 26) k207_19 (by decide) c115 ?_
      refine y_aload_n k207_26 rfl rfl ?_
      refine y_getI k207_27 fk_10_269 sh222 rfl ?_
      refine y_aload_n k207_30 rfl rfl ?_
      refine y_getI k207_31 fk_10_266 sh222 rfl ?_
      refine y_isub k207_34 ?_
      obtain ⟨rfl, rfl⟩ := zpr hE
      exact y_iret k207_35 rfl
    · rw [if_neg c115] at hE
      refine y_icF 26 k207_19 (by decide) c115 ?_
      refine y_iconst (v := (-1)) k207_22 oi_m1 ?_
      refine y_goto (tgt := 35) k207_23 (by decide) ?_
      obtain ⟨rfl, rfl⟩ := zpr hE
      exact y_iret k207_35 rfl
  · rw [if_neg c116] at hE
    refine y_ifF 10 k207_4 (by decide) c116 ?_
    refine y_bipush (v := (-4)) k207_7 b8_m4 ?_
    obtain ⟨rfl, rfl⟩ := zpr hE
    exact y_iret k207_9 rfl
