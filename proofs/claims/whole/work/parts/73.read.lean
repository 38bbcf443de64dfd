-- ===== a clause read: the model =====
def zNx (L : Nat → Nat) (m s : Nat) : Nat := zBg L m (zE L m s)
def zk1 (a b c d : Nat) : Nat → Nat := fun i => if i = 0 then a else if i = 1 then b else if i = 2 then c else d
abbrev zfull (t : zTau) (k : Nat) : Prop := (1 ≤ k ∧ k ≤ 5 ∧ t 0 0 = 10) ∨ (7 ≤ k ∧ k ≤ 10 ∧ t 0 1 = 4) ∨ (k = 6 ∧ t 0 2 = 6)
def zms (k : Nat) : Nat := if k ≤ 5 then 30 else 20
def zRc (L : Nat → Nat) (m : Nat) (t : zTau) (s : Nat) : Bool × Nat × (Nat → Nat) :=
  if zcw L s (zE L m s) = 16 ∨ zfull t (zcw L s (zE L m s)) then (false, s, fun _ => 0)
  else if zcw L s (zE L m s) = 6 then
    (if ¬ zNm L m (zNx L m s) < t 0 0 then (false, zNx L m s, fun _ => 0)
    else if ¬ zNm L m (zNx L m (zNx L m s)) ≤ 4 then (false, zNx L m (zNx L m s), fun _ => 0)
    else if ¬ zNm L m (zNx L m (zNx L m (zNx L m s))) ≤ 99 then (false, zNx L m (zNx L m (zNx L m s)), fun _ => 0)
    else (true, zNx L m (zNx L m (zNx L m (zNx L m s))), zk1 6 (zNm L m (zNx L m s)) (zNm L m (zNx L m (zNx L m s))) (zNm L m (zNx L m (zNx L m (zNx L m s))))))
  else if (1 ≤ zcw L s (zE L m s) ∧ zcw L s (zE L m s) ≤ 5) ∨ (7 ≤ zcw L s (zE L m s) ∧ zcw L s (zE L m s) ≤ 11) then
    (if ¬ zNm L m (zNx L m s) ≤ zms (zcw L s (zE L m s)) then (false, zNx L m s, fun _ => 0)
    else (true, zNx L m (zNx L m s), zk1 (zcw L s (zE L m s)) (zNm L m (zNx L m s)) 0 0))
  else (true, zNx L m s, zk1 (zcw L s (zE L m s)) 0 0 0)
theorem zNx_le {L : Nat → Nat} {m s : Nat} (hs : s ≤ m) : zNx L m s ≤ m := by
  obtain ⟨e1, e2, e3⟩ := zE_le (L := L) hs
  exact (zBg_le rfl e2).2
theorem zNm_le {L : Nat → Nat} {m s : Nat} (hs : s ≤ m) : zNm L m s ≤ 100 := by
  by_cases h : s < m ∧ zso (L s) = 2 ∧ zE L m s - s ≤ 2
  · exact Nat.le_succ_of_le (zNm_99 hs h)
  · unfold zNm
    rw [if_neg h]
    exact Nat.le_refl _
theorem zNm_c {v X : Nat} (hv : v ≤ 100) (hX : X ≤ 99) : (v = 100 ∨ nI X < nI v) ↔ ¬ v ≤ X := by
  rw [nI_ltI (by omega) (by omega)]
  omega
theorem zNm_w {v w : Nat} (hv : v ≤ 100) (hw : w ≤ 10) : (v = 100 ∨ nI w - 1 < nI v) ↔ ¬ v < w := by
  cases w with
  | zero =>
    refine ⟨fun _ => by omega, fun _ => Or.inr ?_⟩
    rw [Int32.lt_iff_toInt_lt, nI_toInt (by omega), show (nI 0 - 1).toInt = -1 from by decide]
    omega
  | succ w =>
    rw [nI_pred, nI_ltI (by omega) (by omega)]
    omega
theorem zRc_ok {L : Nat → Nat} {m s : Nat} {t : zTau} (hs : s ≤ m) (B : zBd t) : (zRc L m t s).2.1 ≤ m ∧ ((zRc L m t s).1 = true → zVc t (zRc L m t s).2.2) := by
  have h16 := @zcw_le L s (zE L m s)
  have n1 := zNx_le (L := L) hs
  have n2 := zNx_le (L := L) n1
  have n3 := zNx_le (L := L) n2
  have n4 := zNx_le (L := L) n3
  obtain ⟨b1, b2, b3, -⟩ := B
  unfold zRc
  by_cases q1 : zcw L s (zE L m s) = 16 ∨ zfull t (zcw L s (zE L m s))
  · rw [if_pos q1]
    exact ⟨hs, fun z => absurd z Bool.false_ne_true⟩
  rw [if_neg q1]
  have hf : ¬ zfull t (zcw L s (zE L m s)) := fun z => q1 (Or.inr z)
  by_cases q2 : zcw L s (zE L m s) = 6
  · rw [if_pos q2]
    by_cases q3 : zNm L m (zNx L m s) < t 0 0
    · rw [if_neg (fun z => z q3)]
      by_cases q4 : zNm L m (zNx L m (zNx L m s)) ≤ 4
      · rw [if_neg (fun z => z q4)]
        by_cases q5 : zNm L m (zNx L m (zNx L m (zNx L m s))) ≤ 99
        · rw [if_neg (fun z => z q5)]
          refine ⟨n4, fun _ => ⟨by show 6 ≤ 15; omega, fun z1 z2 => ?_, fun z1 z2 => ?_, fun _ => ⟨?_, q3, q4, q5⟩, fun z => ?_⟩⟩
          · have z2 : 6 ≤ 5 := z2; omega
          · have z1 : 7 ≤ 6 := z1; omega
          · have : ¬ t 0 2 = 6 := fun z => hf (Or.inr (Or.inr ⟨q2, z⟩))
            omega
          · have z : 6 = 11 := z; omega
        · rw [if_pos q5]
          exact ⟨n3, fun z => absurd z Bool.false_ne_true⟩
      · rw [if_pos q4]
        exact ⟨n2, fun z => absurd z Bool.false_ne_true⟩
    · rw [if_pos q3]
      exact ⟨n1, fun z => absurd z Bool.false_ne_true⟩
  rw [if_neg q2]
  by_cases q3 : (1 ≤ zcw L s (zE L m s) ∧ zcw L s (zE L m s) ≤ 5) ∨ (7 ≤ zcw L s (zE L m s) ∧ zcw L s (zE L m s) ≤ 11)
  · rw [if_pos q3]
    by_cases q4 : zNm L m (zNx L m s) ≤ zms (zcw L s (zE L m s))
    · rw [if_neg (fun z => z q4)]
      refine ⟨n2, fun _ => ⟨by show zcw L s (zE L m s) ≤ 15; omega, fun z1 z2 => ?_, fun z1 z2 => ?_, fun z => absurd z q2, fun z => ?_⟩⟩
      · have z1 : 1 ≤ zcw L s (zE L m s) := z1
        have z2 : zcw L s (zE L m s) ≤ 5 := z2
        have : ¬ t 0 0 = 10 := fun z => hf (Or.inl ⟨z1, z2, z⟩)
        unfold zms at q4
        rw [if_pos z2] at q4
        exact ⟨by omega, q4⟩
      · have z1 : 7 ≤ zcw L s (zE L m s) := z1
        have z2 : zcw L s (zE L m s) ≤ 10 := z2
        have : ¬ t 0 1 = 4 := fun z => hf (Or.inr (Or.inl ⟨z1, z2, z⟩))
        unfold zms at q4
        rw [if_neg (by omega)] at q4
        exact ⟨by omega, q4⟩
      · have z : zcw L s (zE L m s) = 11 := z
        unfold zms at q4
        rw [if_neg (by omega)] at q4
        exact q4
    · rw [if_pos q4]
      exact ⟨n1, fun z => absurd z Bool.false_ne_true⟩
  · rw [if_neg q3]
    refine ⟨n1, fun _ => ⟨?_, fun z1 z2 => ?_, fun z1 z2 => ?_, fun z => absurd z q2, fun z => ?_⟩⟩
    · show zcw L s (zE L m s) ≤ 15
      have : ¬ zcw L s (zE L m s) = 16 := fun z => q1 (Or.inl z)
      omega
    · exact absurd (Or.inl ⟨z1, z2⟩) q3
    · have z1 : 7 ≤ zcw L s (zE L m s) := z1
      have z2 : zcw L s (zE L m s) ≤ 10 := z2
      omega
    · have z : zcw L s (zE L m s) = 11 := z
      omega
-- ===== the class reads a clause =====
def zStp (L : Nat → Nat) (m s : Nat) (g : zS) : Prop := zCT L m g ∧ s ≤ m ∧ g 1 3 = nI s ∧ g 1 4 = nI (zE L m s)
theorem zCl_fr {t : zTau} {g g' : zS} (C : zCl 19 t g) (h : ∀ c, 19 ≤ c → c ≤ 33 → g' c = g c) : zCl 19 t g' := by
  unfold zCl
  rw [h 19 (by omega) (by omega), h (19 + 2) (by omega) (by omega), h (19 + 4) (by omega) (by omega), h (19 + 6) (by omega) (by omega), h (19 + 8) (by omega) (by omega), h (19 + 10) (by omega) (by omega), h (19 + 12) (by omega) (by omega), h (19 + 14) (by omega) (by omega)]
  exact C
theorem f20_n {K m s : Nat} {L : Nat → Nat} {g : zS} (hK : 200 ≤ K) (hm : m ≤ 160) (hL : ∀ i, i < m → L i ≤ 255) (S : zStp L m s g) : ∃ g', f20 K g = some ((), g') ∧ zStp L m (zNx L m s) g' ∧ (∀ c, c ≠ 1 → g' c = g c) ∧ ∀ k, k ≠ 3 → k ≠ 4 → g' 1 k = g 1 k := by
  obtain ⟨T, hs, h3, h4⟩ := S
  obtain ⟨e1, e2, e3⟩ := zE_le (L := L) hs
  obtain ⟨g', a1, a2, a3, a4, a5⟩ := f20_sp hK hm hL e2 T h4
  exact ⟨g', a1, ⟨⟨by rw [a3 1 (by decide) (by decide)]; exact T.1, fun i hi => by rw [a2 3 (by decide)]; exact T.2 i hi⟩, zNx_le hs, a4, a5⟩, a2, a3⟩
theorem f36_sp {K k : Nat} {t : zTau} {g : zS} (B : zBd t) (C : zCl 19 t g) (hk : k < 16) : f36 K 19 (nI k) g = some (if zfull t k then 0 else 1, g) := by
  obtain ⟨b1, b2, b3, -⟩ := B
  obtain ⟨⟨c0, c1, c2, c3, c4⟩, -⟩ := C
  unfold f36
  rw [f12_eq, zbd_s, f12_eq, zbd_s, show zwi (nI k) 1 5 = if 1 ≤ k ∧ k ≤ 5 then 1 else 0 from zwi_nat (a := 1) (b := 5) (by omega) (by omega) (by omega), show zwi (nI k) 7 10 = if 7 ≤ k ∧ k ≤ 10 then 1 else 0 from zwi_nat (a := 7) (b := 10) (by omega) (by omega) (by omega), c0, c1, c2]
  by_cases q1 : 1 ≤ k ∧ k ≤ 5
  · rw [if_pos q1, if_neg (show ¬ (1 : Int32) = 0 by decide)]
    by_cases q : t 0 0 = 10
    · rw [if_pos (show (10 : Int32) ≤ nI (t 0 0) from nI_le (a := 10) (by omega) (by omega)), if_pos (show zfull t k from Or.inl ⟨q1.1, q1.2, q⟩)]
    · rw [if_neg (show ¬ (10 : Int32) ≤ nI (t 0 0) from nI_ge (b := 10) (by omega) (by omega)), if_neg (show ¬ zfull t k from fun z => by rcases z with z | z | z; exact q z.2.2; omega; omega)]
  · rw [if_neg q1, if_pos (show (0 : Int32) = 0 from rfl)]
    by_cases q2 : 7 ≤ k ∧ k ≤ 10
    · rw [if_pos q2, if_neg (show ¬ (1 : Int32) = 0 by decide)]
      by_cases q : t 0 1 = 4
      · rw [if_pos (show (4 : Int32) ≤ nI (t 0 1) from nI_le (a := 4) (by omega) (by omega)), if_pos (show zfull t k from Or.inr (Or.inl ⟨q2.1, q2.2, q⟩))]
      · rw [if_neg (show ¬ (4 : Int32) ≤ nI (t 0 1) from nI_ge (b := 4) (by omega) (by omega)), if_neg (show ¬ zfull t k from fun z => by rcases z with z | z | z; omega; exact q z.2.2; omega)]
    · rw [if_neg q2, if_pos (show (0 : Int32) = 0 from rfl)]
      by_cases q3 : k = 6
      · rw [if_neg (show ¬ ¬ nI k = 6 from fun z => z (by rw [q3]; rfl))]
        by_cases q : t 0 2 = 6
        · rw [if_pos (show (6 : Int32) ≤ nI (t 0 2) from nI_le (a := 6) (by omega) (by omega)), if_pos (show zfull t k from Or.inr (Or.inr ⟨q3, q⟩))]
        · rw [if_neg (show ¬ (6 : Int32) ≤ nI (t 0 2) from nI_ge (b := 6) (by omega) (by omega)), if_neg (show ¬ zfull t k from fun z => by rcases z with z | z | z; omega; omega; exact q z.2)]
      · rw [if_pos (show ¬ nI k = 6 from fun z => q3 ((nI_eq (b := 6) (by omega) (by omega)).mp z)), if_neg (show ¬ zfull t k from fun z => by rcases z with z | z | z; omega; omega; omega)]
theorem f40_sp {K k : Nat} {g : zS} (hk : k < 16) : f40 K (nI k) g = some (if 1 ≤ k ∧ k ≤ 5 then 30 else if 7 ≤ k ∧ k ≤ 11 then 20 else -1, g) := by
  unfold f40
  rw [f12_eq, zbd_s, f12_eq, zbd_s, show zwi (nI k) 1 5 = if 1 ≤ k ∧ k ≤ 5 then 1 else 0 from zwi_nat (a := 1) (b := 5) (by omega) (by omega) (by omega), show zwi (nI k) 7 10 = if 7 ≤ k ∧ k ≤ 10 then 1 else 0 from zwi_nat (a := 7) (b := 10) (by omega) (by omega) (by omega)]
  by_cases q1 : 1 ≤ k ∧ k ≤ 5
  · rw [if_pos q1, if_neg (show ¬ (1 : Int32) = 0 by decide), if_pos q1]
  · rw [if_neg q1, if_pos (show (0 : Int32) = 0 from rfl), if_neg q1]
    by_cases q2 : 7 ≤ k ∧ k ≤ 10
    · rw [if_pos q2, if_neg (show ¬ (1 : Int32) = 0 by decide), if_pos (show 7 ≤ k ∧ k ≤ 11 by omega)]
    · rw [if_neg q2, if_pos (show (0 : Int32) = 0 from rfl)]
      by_cases q3 : k = 11
      · rw [if_neg (show ¬ ¬ nI k = 11 from fun z => z (by rw [q3]; rfl)), if_pos (show 7 ≤ k ∧ k ≤ 11 by omega)]
      · rw [if_pos (show ¬ nI k = 11 from fun z => q3 ((nI_eq (b := 11) (by omega) (by omega)).mp z)), if_neg (show ¬ (7 ≤ k ∧ k ≤ 11) by omega)]
theorem f38_n {K m s : Nat} {L : Nat → Nat} {x : Int32} {g : zS} (hm : m ≤ 160) (hL : ∀ i, i < m → L i ≤ 255) (S : zStp L m s g) : f38 K x g = some (if zNm L m s = 100 ∨ x < nI (zNm L m s) then -1 else nI (zNm L m s), g) := f38_sp hm hL S.2.1 S.1 S.2.2.1 S.2.2.2
/-- what reading a clause does -/
def zRd (L : Nat → Nat) (m : Nat) (t : zTau) (r : Bool × Nat × (Nat → Nat)) (g g' : zS) : Prop := zStp L m r.2.1 g' ∧ (∀ c, c ≠ 1 → c < 19 ∨ 33 < c → g' c = g c) ∧ (∀ k, k ≠ 3 → k ≠ 4 → g' 1 k = g 1 k) ∧ (r.1 = true → zCl 19 (zhr t r.2.2) g')
theorem zStp_fr {L : Nat → Nat} {m s : Nat} {g g' : zS} (S : zStp L m s g) (h : ∀ c, c < 19 ∨ 33 < c → g' c = g c) : zStp L m s g' := ⟨⟨by rw [h 1 (by omega)]; exact S.1.1, fun i hi => by rw [h 3 (by omega)]; exact S.1.2 i hi⟩, S.2.1, by rw [h 1 (by omega)]; exact S.2.2.1, by rw [h 1 (by omega)]; exact S.2.2.2⟩
theorem f23_sp {K m s : Nat} {L : Nat → Nat} {t : zTau} {g : zS} (hK : 200 ≤ K) (hm : m ≤ 160) (hL : ∀ i, i < m → L i ≤ 255) (B : zBd t) (S : zStp L m s g) (C : zCl 19 t g) : ∃ g', f23 K 19 g = some (nI (zRc L m t s).1.toNat, g') ∧ zRd L m t (zRc L m t s) g g' := by
  obtain ⟨ok1, ok2⟩ := zRc_ok (L := L) (m := m) (s := s) (t := t) S.2.1 B
  have h16 := @zcw_le L s (zE L m s)
  have hs := S.2.1
  have n1 := zNx_le (L := L) hs
  have n2 := zNx_le (L := L) n1
  have n3 := zNx_le (L := L) n2
  have b1 := B.1
  unfold f23
  rw [f24_sp hK hm hL S.2.1 S.1 S.2.2.1 S.2.2.2, zbd_s]
  revert ok1 ok2
  unfold zRc
  intro ok1 ok2
  by_cases q16 : zcw L s (zE L m s) = 16
  · have e : zcd (zcw L s (zE L m s)) = -1 := by unfold zcd; rw [if_pos q16]
    rw [if_pos e, if_pos (Or.inl q16)]
    exact ⟨g, rfl, S, fun c _ _ => rfl, fun k _ _ => rfl, fun z => absurd z Bool.false_ne_true⟩
  have e : zcd (zcw L s (zE L m s)) = nI (zcw L s (zE L m s)) := by unfold zcd; rw [if_neg q16]
  rw [e, if_neg (nI_nm1 (by omega)), f36_sp B C (by omega), zbd_s]
  by_cases qf : zfull t (zcw L s (zE L m s))
  · rw [if_pos qf, if_neg (show ¬ ¬ (0 : Int32) = 0 from fun z => z rfl), if_pos (Or.inr qf)]
    exact ⟨g, rfl, S, fun c _ _ => rfl, fun k _ _ => rfl, fun z => absurd z Bool.false_ne_true⟩
  have q1 : ¬ (zcw L s (zE L m s) = 16 ∨ zfull t (zcw L s (zE L m s))) := fun z => by rcases z with z | z; exact q16 z; exact qf z
  obtain ⟨g1, a1, a2, a3, a4⟩ := f20_n hK hm hL S
  rw [if_neg q1] at ok1 ok2
  rw [if_neg qf, if_pos (show ¬ (1 : Int32) = 0 by decide), a1, zbd_s, if_neg q1]
  have C1 : zCl 19 t g1 := zCl_fr C fun c c1 c2 => a3 c (by omega)
  by_cases q6 : zcw L s (zE L m s) = 6
  · rw [if_pos q6] at ok1 ok2
    rw [if_neg (show ¬ ¬ nI (zcw L s (zE L m s)) = 6 from fun z => z (by rw [q6]; rfl)), if_pos q6]
    unfold f37
    rw [C1.1.1, f38_n hm hL a2, zbd_s]
    by_cases y1 : zNm L m (zNx L m s) < t 0 0
    · rw [if_neg (fun z => z y1)] at ok1 ok2
      rw [if_neg (show ¬ (zNm L m (zNx L m s) = 100 ∨ nI (t 0 0) - 1 < nI (zNm L m (zNx L m s))) from fun z => (zNm_w (zNm_le n1) b1).mp z y1), if_pos (show ¬ nI (zNm L m (zNx L m s)) = -1 from nI_nm1 (by omega)), if_neg (fun z => z y1)]
      obtain ⟨g2, a5, a6, a7, a8⟩ := f20_n hK hm hL a2
      rw [a5, zbd_s, f38_n hm hL a6, zbd_s]
      by_cases y2 : zNm L m (zNx L m (zNx L m s)) ≤ 4
      · rw [if_neg (fun z => z y2)] at ok1 ok2
        rw [if_neg (show ¬ (zNm L m (zNx L m (zNx L m s)) = 100 ∨ 4 < nI (zNm L m (zNx L m (zNx L m s)))) from fun z => (zNm_c (X := 4) (zNm_le n2) (by omega)).mp z y2), if_pos (show ¬ nI (zNm L m (zNx L m (zNx L m s))) = -1 from nI_nm1 (by omega)), if_neg (fun z => z y2)]
        obtain ⟨g3, a9, a10, a11, a12⟩ := f20_n hK hm hL a6
        rw [a9, zbd_s, f38_n hm hL a10, zbd_s]
        by_cases y3 : zNm L m (zNx L m (zNx L m (zNx L m s))) ≤ 99
        · rw [if_neg (fun z => z y3)] at ok1 ok2
          rw [if_neg (show ¬ (zNm L m (zNx L m (zNx L m (zNx L m s))) = 100 ∨ 99 < nI (zNm L m (zNx L m (zNx L m (zNx L m s))))) from fun z => (zNm_c (X := 99) (zNm_le n3) (by omega)).mp z y3), if_pos (show ¬ nI (zNm L m (zNx L m (zNx L m (zNx L m s)))) = -1 from nI_nm1 (by omega)), if_neg (fun z => z y3)]
          obtain ⟨g4, a13, a14, a15, a16⟩ := f20_n hK hm hL a10
          have C4 : zCl 19 t g4 := zCl_fr C1 fun c c1 c2 => by rw [a15 c (by omega), a11 c (by omega), a7 c (by omega)]
          obtain ⟨g5, d1, d2, d3⟩ := f39_sp (K := K) B (ok2 rfl) C4 rfl
          have d1 : f39 K 19 (nI (zNm L m (zNx L m s))) (nI (zNm L m (zNx L m (zNx L m s)))) (nI (zNm L m (zNx L m (zNx L m (zNx L m s))))) g4 = some ((), g5) := d1
          rw [a13, zbd_s, d1, zbd_s, zbd_s, if_pos (show (1 : Int32) = 0 ∨ (1 : Int32) = 1 from Or.inr rfl)]
          exact ⟨g5, rfl, zStp_fr a14 d2, fun c c1 c2 => by rw [d2 c c2, a15 c c1, a11 c c1, a7 c c1, a3 c c1], fun k k1 k2 => by rw [d2 1 (by omega), a16 k k1 k2, a12 k k1 k2, a8 k k1 k2, a4 k k1 k2], fun _ => d3⟩
        · rw [if_pos (show zNm L m (zNx L m (zNx L m (zNx L m s))) = 100 ∨ 99 < nI (zNm L m (zNx L m (zNx L m (zNx L m s)))) from (zNm_c (X := 99) (zNm_le n3) (by omega)).mpr y3), if_neg (show ¬ ¬ (-1 : Int32) = -1 from fun z => z rfl), zbd_s, if_pos (show (0 : Int32) = 0 ∨ (0 : Int32) = 1 from Or.inl rfl), if_pos y3]
          exact ⟨g3, rfl, a10, fun c c1 c2 => by rw [a11 c c1, a7 c c1, a3 c c1], fun k k1 k2 => by rw [a12 k k1 k2, a8 k k1 k2, a4 k k1 k2], fun z => absurd z Bool.false_ne_true⟩
      · rw [if_pos (show zNm L m (zNx L m (zNx L m s)) = 100 ∨ 4 < nI (zNm L m (zNx L m (zNx L m s))) from (zNm_c (X := 4) (zNm_le n2) (by omega)).mpr y2), if_neg (show ¬ ¬ (-1 : Int32) = -1 from fun z => z rfl), zbd_s, if_pos (show (0 : Int32) = 0 ∨ (0 : Int32) = 1 from Or.inl rfl), if_pos y2]
        exact ⟨g2, rfl, a6, fun c c1 c2 => by rw [a7 c c1, a3 c c1], fun k k1 k2 => by rw [a8 k k1 k2, a4 k k1 k2], fun z => absurd z Bool.false_ne_true⟩
    · rw [if_pos (show zNm L m (zNx L m s) = 100 ∨ nI (t 0 0) - 1 < nI (zNm L m (zNx L m s)) from (zNm_w (zNm_le n1) b1).mpr y1), if_neg (show ¬ ¬ (-1 : Int32) = -1 from fun z => z rfl), zbd_s, if_pos (show (0 : Int32) = 0 ∨ (0 : Int32) = 1 from Or.inl rfl), if_pos y1]
      exact ⟨g1, rfl, a2, fun c c1 c2 => a3 c c1, a4, fun z => absurd z Bool.false_ne_true⟩
  rw [if_neg q6] at ok1 ok2
  rw [if_pos (show ¬ nI (zcw L s (zE L m s)) = 6 from fun z => q6 ((nI_eq (b := 6) (by omega) (by omega)).mp z)), f40_sp (by omega), zbd_s, if_neg q6]
  by_cases qn : (1 ≤ zcw L s (zE L m s) ∧ zcw L s (zE L m s) ≤ 5) ∨ (7 ≤ zcw L s (zE L m s) ∧ zcw L s (zE L m s) ≤ 11)
  · have em : (if 1 ≤ zcw L s (zE L m s) ∧ zcw L s (zE L m s) ≤ 5 then (30 : Int32) else if 7 ≤ zcw L s (zE L m s) ∧ zcw L s (zE L m s) ≤ 11 then 20 else -1) = nI (zms (zcw L s (zE L m s))) := by
      unfold zms
      by_cases q5 : 1 ≤ zcw L s (zE L m s) ∧ zcw L s (zE L m s) ≤ 5
      · rw [if_pos q5, if_pos q5.2]; rfl
      · rw [if_neg q5, if_pos (show 7 ≤ zcw L s (zE L m s) ∧ zcw L s (zE L m s) ≤ 11 by omega), if_neg (show ¬ zcw L s (zE L m s) ≤ 5 by omega)]; rfl
    have hms : zms (zcw L s (zE L m s)) ≤ 30 := by
      unfold zms
      by_cases q5 : zcw L s (zE L m s) ≤ 5
      · rw [if_pos q5]; omega
      · rw [if_neg q5]; omega
    rw [if_pos qn] at ok1 ok2
    rw [em, if_neg (nI_nm1 (by omega)), f38_n hm hL a2, zbd_s, if_pos qn]
    by_cases y1 : zNm L m (zNx L m s) ≤ zms (zcw L s (zE L m s))
    · rw [if_neg (fun z => z y1)] at ok1 ok2
      rw [if_neg (show ¬ (zNm L m (zNx L m s) = 100 ∨ nI (zms (zcw L s (zE L m s))) < nI (zNm L m (zNx L m s))) from fun z => (zNm_c (zNm_le n1) (by omega)).mp z y1), if_pos (show ¬ nI (zNm L m (zNx L m s)) = -1 from nI_nm1 (by omega)), if_neg (fun z => z y1)]
      obtain ⟨g2, a5, a6, a7, a8⟩ := f20_n hK hm hL a2
      have C2 : zCl 19 t g2 := zCl_fr C1 fun c c1 c2 => a7 c (by omega)
      obtain ⟨g3, d1, d2, d3⟩ := f41_sp (K := K) B (ok2 rfl) C2 q6
      have d1 : f41 K 19 (nI (zcw L s (zE L m s))) (nI (zNm L m (zNx L m s))) g2 = some ((), g3) := d1
      unfold f23_68
      rw [a5, zbd_s, d1, zbd_s]
      exact ⟨g3, rfl, zStp_fr a6 d2, fun c c1 c2 => by rw [d2 c c2, a7 c c1, a3 c c1], fun k k1 k2 => by rw [d2 1 (by omega), a8 k k1 k2, a4 k k1 k2], fun _ => d3⟩
    · rw [if_pos (show zNm L m (zNx L m s) = 100 ∨ nI (zms (zcw L s (zE L m s))) < nI (zNm L m (zNx L m s)) from (zNm_c (zNm_le n1) (by omega)).mpr y1), if_neg (show ¬ ¬ (-1 : Int32) = -1 from fun z => z rfl), if_pos y1]
      exact ⟨g1, rfl, a2, fun c c1 c2 => a3 c c1, a4, fun z => absurd z Bool.false_ne_true⟩
  · rw [if_neg qn] at ok1 ok2
    rw [if_neg (show ¬ (1 ≤ zcw L s (zE L m s) ∧ zcw L s (zE L m s) ≤ 5) from fun z => qn (Or.inl z)), if_neg (show ¬ (7 ≤ zcw L s (zE L m s) ∧ zcw L s (zE L m s) ≤ 11) from fun z => qn (Or.inr z)), if_pos (show (-1 : Int32) = -1 from rfl), if_neg qn]
    obtain ⟨g3, d1, d2, d3⟩ := f41_sp (K := K) B (ok2 rfl) C1 q6
    have d1 : f41 K 19 (nI (zcw L s (zE L m s))) 0 g1 = some ((), g3) := d1
    unfold f23_68
    rw [d1, zbd_s]
    exact ⟨g3, rfl, zStp_fr a2 d2, fun c c1 c2 => by rw [d2 c c2, a3 c c1], fun k k1 k2 => by rw [d2 1 (by omega), a4 k k1 k2], fun _ => d3⟩
-- ===== the whole text: the model =====
/-- what reading comes to (999: no fault), how many clauses, what they tell, what they are -/
def zrl (L : Nat → Nat) (m : Nat) : Nat → zTau → Nat → Nat → (Nat → Nat → Nat) → Nat × Nat × zTau × (Nat → Nat → Nat)
  | 0, t, s, k, ks => (s, k, t, ks)
  | d + 1, t, s, k, ks =>
    if (zRc L m t s).1 = true then
      (if (zRc L m t s).2.1 < m then
        (if k = 14 ∨ ¬ L (zRc L m t s).2.1 = 59 then ((zRc L m t s).2.1, k, t, ks)
        else zrl L m d (zhr t (zRc L m t s).2.2) (zNx L m (zRc L m t s).2.1) (k + 1) (fun j => if j = k - 1 then (zRc L m t s).2.2 else ks j))
      else (999, k, zhr t (zRc L m t s).2.2, fun j => if j = k - 1 then (zRc L m t s).2.2 else ks j))
    else ((zRc L m t s).2.1, k, t, ks)
theorem zrl_s {L : Nat → Nat} {m d : Nat} {t : zTau} {s k : Nat} {ks : Nat → Nat → Nat} : zrl L m (d + 1) t s k ks = if (zRc L m t s).1 = true then (if (zRc L m t s).2.1 < m then (if k = 14 ∨ ¬ L (zRc L m t s).2.1 = 59 then ((zRc L m t s).2.1, k, t, ks) else zrl L m d (zhr t (zRc L m t s).2.2) (zNx L m (zRc L m t s).2.1) (k + 1) (fun j => if j = k - 1 then (zRc L m t s).2.2 else ks j)) else (999, k, zhr t (zRc L m t s).2.2, fun j => if j = k - 1 then (zRc L m t s).2.2 else ks j)) else ((zRc L m t s).2.1, k, t, ks) := rfl
def zrq (c : Nat) : Int32 := if c = 999 then -1 else nI c
theorem f19_lp {K m : Nat} {L : Nat → Nat} (hK : 200 ≤ K) (hm : m ≤ 160) (hL : ∀ i, i < m → L i ≤ 255) : ∀ d k q (t : zTau) s ks (g : zS), k + d = 15 → d ≤ q → 0 < d → 0 < k → zBd t → zStp L m s g → zCl 19 t g → g 1 2 = nI k → ∃ g', f19_14 K q 19 g = some (zrq (zrl L m d t s k ks).1, g') ∧ (∀ c, c ≠ 1 → c < 19 ∨ 33 < c → g' c = g c) ∧ g' 1 1 = g 1 1 ∧ g' 1 0 = g 1 0 ∧ ((zrl L m d t s k ks).1 = 999 → zCl 19 (zrl L m d t s k ks).2.2.1 g' ∧ zBd (zrl L m d t s k ks).2.2.1 ∧ g' 1 2 = nI (zrl L m d t s k ks).2.1) := by
  intro d
  induction d with
  | zero => intro k q t s ks g _ _ h; omega
  | succ d ih =>
    intro k q t s ks g h1 h2 _ hk0 B S C hk
    obtain ⟨q, rfl⟩ : ∃ z, q = z + 1 := ⟨q - 1, by omega⟩
    obtain ⟨ok1, ok2⟩ := zRc_ok (L := L) (m := m) (s := s) (t := t) S.2.1 B
    obtain ⟨g1, e1, e2, e3, e4, e5⟩ := f23_sp hK hm hL B S C
    rw [f19_14, hk, if_neg (show ¬ (14 : Int32) < nI k from nI_nlt (a := 14) (by omega) (by omega)), e1, zbd_s, zrl_s]
    obtain ⟨T1, s1, p3, p4⟩ := e2
    have S1 : zStp L m (zRc L m t s).2.1 g1 := ⟨T1, s1, p3, p4⟩
    have n999 : ¬ (zRc L m t s).2.1 = 999 := by omega
    have rq : ∀ c : Nat, ¬ c = 999 → zrq c = nI c := fun c hc => if_neg hc
    cases hb : (zRc L m t s).1 with
    | false =>
      rw [if_neg (show ¬ ¬ nI false.toNat = 0 by decide), if_neg (show ¬ false = true by decide)]
      refine ⟨g1, ?_, e3, e4 1 (by decide) (by decide), e4 0 (by decide) (by decide), fun z => absurd z n999⟩
      rw [p3, rq _ n999]
    | true =>
      have C1 := e5 hb
      have V := ok2 hb
      have B1 := zhr_bd B V
      rw [if_pos (show ¬ nI true.toNat = 0 by decide), if_pos (show true = true from rfl), p3, T1.1]
      by_cases y1 : (zRc L m t s).2.1 < m
      · have l1 := hL _ y1
        rw [if_pos (nI_lt y1 (by omega)), if_pos y1, e4 2 (by decide) (by decide), hk]
        by_cases y2 : k = 14
        · rw [if_pos (show nI k = 14 by rw [y2]; rfl), if_pos (Or.inl y2)]
          refine ⟨g1, ?_, e3, e4 1 (by decide) (by decide), e4 0 (by decide) (by decide), fun z => absurd z n999⟩
          rw [rq _ n999]
        · rw [if_neg (show ¬ nI k = 14 from fun z => y2 ((nI_eq (b := 14) (by omega) (by omega)).mp z)), f21_2 T1 hm y1, zbd_s]
          by_cases y3 : L (zRc L m t s).2.1 = 59
          · rw [if_pos (show nI (L (zRc L m t s).2.1) = 59 by rw [y3]; rfl), if_neg (show ¬ (k = 14 ∨ ¬ L (zRc L m t s).2.1 = 59) from fun z => by rcases z with z | z; exact y2 z; exact z y3)]
            obtain ⟨g2, a1, a2, a3, a4⟩ := f20_n hK hm hL S1
            have S2 : zStp L m (zNx L m (zRc L m t s).2.1) (zup g2 1 2 (nI (k + 1))) := ⟨zCT_up a2.1 (by decide), a2.2.1, by rw [zup_k (by decide)]; exact a2.2.2.1, by rw [zup_k (by decide)]; exact a2.2.2.2⟩
            obtain ⟨g3, d1, d2, d3, d4, d5⟩ := ih (k + 1) q (zhr t (zRc L m t s).2.2) (zNx L m (zRc L m t s).2.1) (fun j => if j = k - 1 then (zRc L m t s).2.2 else ks j) (zup g2 1 2 (nI (k + 1))) (by omega) (by omega) (by omega) (by omega) B1 S2 (zCl_fr C1 fun c c1 c2 => by rw [zup_c (by omega), a3 c (by omega)]) (zup_s _ _ _ _)
            refine ⟨g3, ?_, fun c c1 c2 => by rw [d2 c c1 c2, zup_c c1, a3 c c1, e3 c c1 c2], by rw [d3, zup_k (by decide), a4 1 (by decide) (by decide), e4 1 (by decide) (by decide)], by rw [d4, zup_k (by decide), a4 0 (by decide) (by decide), e4 0 (by decide) (by decide)], d5⟩
            rw [a1, zbd_s, a4 2 (by decide) (by decide), e4 2 (by decide) (by decide), hk, nI_1]
            exact d1
          · rw [if_neg (show ¬ nI (L (zRc L m t s).2.1) = 59 from fun z => y3 ((nI_eq (b := 59) (by omega) (by omega)).mp z)), if_pos (Or.inr y3)]
            refine ⟨g1, ?_, e3, e4 1 (by decide) (by decide), e4 0 (by decide) (by decide), fun z => absurd z n999⟩
            rw [p3, rq _ n999]
      · rw [if_neg (nI_nlt (by omega) (by omega)), if_neg y1]
        refine ⟨g1, rfl, e3, e4 1 (by decide) (by decide), e4 0 (by decide) (by decide), fun _ => ⟨C1, B1, ?_⟩⟩
        rw [e4 2 (by decide) (by decide)]
        exact hk
