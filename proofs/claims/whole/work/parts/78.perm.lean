-- ===== rows of words, their orders =====
def zsg (c : Nat → Nat) : Nat → Nat → List Nat
  | _, 0 => []
  | a, n + 1 => c a :: zsg c (a + 1) n
theorem zsg_len {c : Nat → Nat} : ∀ n a, (zsg c a n).length = n := by
  intro n
  induction n with
  | zero => intro a; rfl
  | succ n ih => intro a; rw [zsg, List.length_cons, ih]
theorem zsg_get {c : Nat → Nat} : ∀ n a i, i < n → (zsg c a n).getD i 0 = c (a + i) := by
  intro n
  induction n with
  | zero => intro a i hi; omega
  | succ n ih =>
    intro a i hi
    rw [zsg]
    cases i with
    | zero => rfl
    | succ i =>
      rw [List.getD_cons_succ, ih (a + 1) i (by omega), show a + 1 + i = a + (i + 1) by omega]
theorem zsg_app {c : Nat → Nat} : ∀ n1 a n2, zsg c a (n1 + n2) = zsg c a n1 ++ zsg c (a + n1) n2 := by
  intro n1
  induction n1 with
  | zero => intro a n2; rw [Nat.zero_add]; rfl
  | succ n1 ih =>
    intro a n2
    rw [show n1 + 1 + n2 = (n1 + n2) + 1 by omega, zsg, zsg, ih, List.cons_append, show a + 1 + n1 = a + (n1 + 1) by omega]
theorem zsg_c {c c' : Nat → Nat} : ∀ n a, (∀ k, a ≤ k → k < a + n → c k = c' k) → zsg c a n = zsg c' a n := by
  intro n
  induction n with
  | zero => intro a _; rfl
  | succ n ih =>
    intro a h
    rw [zsg, zsg, h a (by omega) (by omega), ih (a + 1) (fun k h1 h2 => h k (by omega) (by omega))]
theorem zsg_sh {c : Nat → Nat} : ∀ n a, zsg c (a + 1) n = zsg (fun i => c (i + 1)) a n := by
  intro n
  induction n with
  | zero => intro a; rfl
  | succ n ih => intro a; rw [zsg, zsg, ih]
theorem zsg_of : ∀ (p : List Nat) n, p.length = n → zsg (fun i => p.getD i 0) 0 n = p := by
  intro p
  induction p with
  | nil => intro n h; subst h; rfl
  | cons a p ih =>
    intro n h
    obtain ⟨n, rfl⟩ : ∃ z, n = z + 1 := ⟨n - 1, by rw [List.length_cons] at h; omega⟩
    rw [zsg, zsg_sh]
    exact congrArg (a :: ·) (ih n (by rw [List.length_cons] at h; omega))
theorem zsg_map {u : Nat → Nat} : ∀ n a, zsg u a n = (zsg id a n).map u := by
  intro n
  induction n with
  | zero => intro a; rfl
  | succ n ih => intro a; rw [zsg, zsg, List.map_cons, ih]; rfl
theorem zsg_rev {c c' : Nat → Nat} : ∀ n a b, (∀ k, k < n → c' (a + k) = c (b + (n - 1 - k))) → zsg c' a n = (zsg c b n).reverse := by
  intro n
  induction n with
  | zero => intro a b _; rfl
  | succ n ih =>
    intro a b h
    rw [zsg_app n b 1, List.reverse_append]
    show c' a :: zsg c' (a + 1) n = c (b + n) :: (zsg c b n).reverse
    rw [ih (a + 1) b (fun k hk => by
      have := h (k + 1) (by omega)
      rw [show a + 1 + k = a + (k + 1) by omega, this, show n + 1 - 1 - (k + 1) = n - 1 - k by omega]), show c' a = c (b + n) from h 0 (by omega)]
-- ===== rows by words =====
def zwl : List Nat → List Nat → Bool
  | a :: p, b :: q => decide (a < b) || (decide (a = b) && zwl p q)
  | [], _ => false
  | _ :: _, [] => false
theorem zwl_c {a b : Nat} {p q : List Nat} : zwl (a :: p) (b :: q) = true ↔ a < b ∨ (a = b ∧ zwl p q = true) := by
  rw [zwl, Bool.or_eq_true, Bool.and_eq_true, decide_eq_true_iff, decide_eq_true_iff]
theorem zwl_irr : ∀ p, ¬ zwl p p = true := by
  intro p
  induction p with
  | nil => intro h; exact Bool.false_ne_true h
  | cons a p ih =>
    intro h
    rcases zwl_c.mp h with h | h
    · omega
    · exact ih h.2
theorem zwl_tri : ∀ p q : List Nat, p.length = q.length → zwl p q = true ∨ p = q ∨ zwl q p = true := by
  intro p
  induction p with
  | nil =>
    intro q h
    cases q with
    | nil => exact Or.inr (Or.inl rfl)
    | cons b q => cases h
  | cons a p ih =>
    intro q h
    cases q with
    | nil => cases h
    | cons b q =>
      rw [List.length_cons, List.length_cons] at h
      by_cases h1 : a < b
      · exact Or.inl (zwl_c.mpr (Or.inl h1))
      by_cases h2 : b < a
      · exact Or.inr (Or.inr (zwl_c.mpr (Or.inl h2)))
      have h3 : a = b := by omega
      rcases ih q (by omega) with z | z | z
      · exact Or.inl (zwl_c.mpr (Or.inr ⟨h3, z⟩))
      · exact Or.inr (Or.inl (by rw [h3, z]))
      · exact Or.inr (Or.inr (zwl_c.mpr (Or.inr ⟨h3.symm, z⟩)))
theorem zwl_tr : ∀ p q r : List Nat, zwl p q = true → zwl q r = true → zwl p r = true := by
  intro p
  induction p with
  | nil => intro q r h; exact absurd h Bool.false_ne_true
  | cons a p ih =>
    intro q r h1 h2
    cases q with
    | nil => exact absurd h1 Bool.false_ne_true
    | cons b q =>
      cases r with
      | nil => exact absurd h2 Bool.false_ne_true
      | cons c r =>
        rcases zwl_c.mp h1 with h1 | ⟨h1, h3⟩
        · rcases zwl_c.mp h2 with h2 | ⟨h2, h4⟩
          · exact zwl_c.mpr (Or.inl (by omega))
          · exact zwl_c.mpr (Or.inl (by omega))
        · rcases zwl_c.mp h2 with h2 | ⟨h2, h4⟩
          · exact zwl_c.mpr (Or.inl (by omega))
          · exact zwl_c.mpr (Or.inr ⟨by omega, ih q r h3 h4⟩)
theorem zwl_app {p q : List Nat} (h : zwl p q = true) : ∀ a : List Nat, zwl (a ++ p) (a ++ q) = true := by
  intro a
  induction a with
  | nil => exact h
  | cons x a ih => exact zwl_c.mpr (Or.inr ⟨rfl, ih⟩)
def zLe (p q : List Nat) : Prop := p = q ∨ zwl p q = true
theorem zmin_le : ∀ s p : List Nat, s.Pairwise (fun u v => u ≤ v) → List.Perm p s → zLe s p := by
  intro s
  induction s with
  | nil => intro p _ hp; exact Or.inl hp.eq_nil.symm
  | cons a s ih =>
    intro p hs hp
    cases p with
    | nil => exact absurd hp.length_eq (by intro z; cases z)
    | cons b p =>
      have hb : b ∈ a :: s := hp.mem_iff.mp (List.mem_cons_self)
      have hab : a ≤ b := by
        rcases List.mem_cons.mp hb with z | z
        · omega
        · exact (List.pairwise_cons.mp hs).1 b z
      by_cases q : a = b
      · subst q
        rcases ih p (List.pairwise_cons.mp hs).2 (hp.cons_inv) with z | z
        · exact Or.inl (by rw [z])
        · exact Or.inr (zwl_c.mpr (Or.inr ⟨rfl, z⟩))
      · exact Or.inr (zwl_c.mpr (Or.inl (by omega)))
theorem zmax_le : ∀ s p : List Nat, s.Pairwise (fun u v => v ≤ u) → List.Perm p s → zLe p s := by
  intro s
  induction s with
  | nil => intro p _ hp; exact Or.inl hp.eq_nil
  | cons a s ih =>
    intro p hs hp
    cases p with
    | nil => exact absurd hp.length_eq (by intro z; cases z)
    | cons b p =>
      have hb : b ∈ a :: s := hp.mem_iff.mp (List.mem_cons_self)
      have hab : b ≤ a := by
        rcases List.mem_cons.mp hb with z | z
        · omega
        · exact (List.pairwise_cons.mp hs).1 b z
      by_cases q : b = a
      · subst q
        rcases ih p (List.pairwise_cons.mp hs).2 (hp.cons_inv) with z | z
        · exact Or.inl (by rw [z])
        · exact Or.inr (zwl_c.mpr (Or.inr ⟨rfl, z⟩))
      · exact Or.inr (zwl_c.mpr (Or.inl (by omega)))
theorem znx_least {d1 d2 : List Nat} {x y : Nat} (hd : (d1 ++ y :: d2).Pairwise (fun u v => v ≤ u)) (hxy : x < y) (h2 : ∀ z, z ∈ d2 → z ≤ x) : ∀ (a p : List Nat), List.Perm p (a ++ x :: (d1 ++ y :: d2)) → zwl (a ++ x :: (d1 ++ y :: d2)) p = true → zLe (a ++ y :: (d1 ++ x :: d2).reverse) p := by
  intro a
  induction a with
  | nil =>
    intro p hp hlt
    rw [List.nil_append] at hp hlt ⊢
    cases p with
    | nil => exact absurd hp.length_eq (by intro z; cases z)
    | cons b p =>
      rcases zwl_c.mp hlt with h | ⟨h, h3⟩
      · have hb : b ∈ x :: (d1 ++ y :: d2) := hp.mem_iff.mp (List.mem_cons_self)
        obtain ⟨w1, w2, w3⟩ := List.pairwise_append.mp hd
        have hyb : y ≤ b := by
          rcases List.mem_cons.mp hb with z | z
          · omega
          · rcases List.mem_append.mp z with z | z
            · exact w3 b z y (List.mem_cons_self)
            · rcases List.mem_cons.mp z with z | z
              · omega
              · have := h2 b z; omega
        by_cases q : y = b
        · subst q
          have e : List.Perm (x :: (d1 ++ y :: d2)) (y :: (d1 ++ x :: d2)) := ((List.perm_middle (a := y) (l₁ := d1) (l₂ := d2)).cons x).trans ((List.Perm.swap y x (d1 ++ d2)).trans ((List.perm_middle (a := x) (l₁ := d1) (l₂ := d2)).symm.cons y))
          have e2 : List.Perm p (d1 ++ x :: d2) := (hp.trans e).cons_inv
          have srt : ((d1 ++ x :: d2).reverse).Pairwise (fun u v => u ≤ v) := by
            rw [List.pairwise_reverse]
            refine List.pairwise_append.mpr ⟨w1, List.pairwise_cons.mpr ⟨h2, (List.pairwise_cons.mp w2).2⟩, fun u hu v hv => ?_⟩
            have := w3 u hu y (List.mem_cons_self)
            rcases List.mem_cons.mp hv with z | z
            · omega
            · have := h2 v z; omega
          rcases zmin_le _ p srt (e2.trans (List.reverse_perm _).symm) with z | z
          · exact Or.inl (by rw [z])
          · exact Or.inr (zwl_c.mpr (Or.inr ⟨rfl, z⟩))
        · exact Or.inr (zwl_c.mpr (Or.inl (by omega)))
      · subst h
        rcases zmax_le _ p hd hp.cons_inv with z | z
        · rw [z] at h3
          exact absurd h3 (zwl_irr _)
        · exact absurd (zwl_tr _ _ _ h3 z) (zwl_irr _)
  | cons c a ih =>
    intro p hp hlt
    cases p with
    | nil => exact absurd hp.length_eq (by intro z; cases z)
    | cons b p =>
      rcases zwl_c.mp hlt with h | ⟨h, h3⟩
      · exact Or.inr (zwl_c.mpr (Or.inl h))
      · subst h
        rcases ih p (hp.cons_inv) h3 with z | z
        · exact Or.inl (by rw [← z]; rfl)
        · exact Or.inr (zwl_c.mpr (Or.inr ⟨rfl, z⟩))
theorem znx_perm {a d1 d2 : List Nat} {x y : Nat} : List.Perm (a ++ y :: (d1 ++ x :: d2).reverse) (a ++ x :: (d1 ++ y :: d2)) := by
  refine List.Perm.append_left a ?_
  refine ((List.reverse_perm (d1 ++ x :: d2)).cons y).trans ?_
  exact ((List.perm_middle (a := x) (l₁ := d1) (l₂ := d2)).cons y).trans ((List.Perm.swap x y (d1 ++ d2)).trans ((List.perm_middle (a := y) (l₁ := d1) (l₂ := d2)).symm.cons x))
-- ===== the orders by number =====
def zfc : Nat → Nat
  | 0 => 1
  | n + 1 => (n + 1) * zfc n
def zpk (a : Nat) : Nat → Nat → Nat → Nat
  | 0, _, i => i
  | f + 1, d, i => if a.testBit i = true then (if d = 0 then i else zpk a f (d - 1) (i + 1)) else zpk a f d (i + 1)
def zOrd : Nat → Nat → Nat → List Nat
  | 0, _, _ => []
  | n + 1, v, a => zpk a 8 (v / zfc n) 0 :: zOrd n (v % zfc n) (a &&& (255 ^^^ 2 ^ zpk a 8 (v / zfc n) 0))
def zPm : Nat → List Nat → List (List Nat)
  | 0, _ => [[]]
  | n + 1, R => R.flatMap fun q => (zPm n (R.erase q)).map (q :: ·)
theorem zOrd_all : ∀ m, m < 7 → (List.range (zfc m)).map (fun v => zOrd m v (2 ^ m - 1)) = zPm m (zsg id 0 m) := by decide +kernel
theorem zPm_ok : ∀ n R p, R.length = n → (p ∈ zPm n R ↔ List.Perm p R) := by
  intro n
  induction n with
  | zero =>
    intro R p h
    have : R = [] := List.length_eq_zero_iff.mp h
    subst this
    rw [zPm, List.mem_singleton]
    exact ⟨fun z => by rw [z], fun z => z.eq_nil⟩
  | succ n ih =>
    intro R p h
    rw [zPm, List.mem_flatMap]
    constructor
    · rintro ⟨q, h1, h2⟩
      obtain ⟨p', h3, h4⟩ := List.mem_map.mp h2
      subst h4
      exact List.cons_perm_iff_perm_erase.mpr ⟨h1, (ih _ _ (by rw [List.length_erase_of_mem h1]; omega)).mp h3⟩
    · intro hp
      cases p with
      | nil => exact absurd hp.length_eq (by rw [h]; intro z; cases z)
      | cons b p =>
        obtain ⟨h1, h2⟩ := List.cons_perm_iff_perm_erase.mp hp
        exact ⟨b, h1, List.mem_map.mpr ⟨p, (ih _ _ (by rw [List.length_erase_of_mem h1]; omega)).mpr h2, rfl⟩⟩
theorem zpm_val {u : Nat → Nat} : ∀ (l R : List Nat), List.Perm l (R.map u) → ∃ p, List.Perm p R ∧ l = p.map u := by
  intro l
  induction l with
  | nil =>
    intro R h
    have : R = [] := List.map_eq_nil_iff.mp h.symm.eq_nil
    subst this
    exact ⟨[], List.Perm.refl _, rfl⟩
  | cons a l ih =>
    intro R h
    have ha : a ∈ R.map u := h.mem_iff.mp (List.mem_cons_self)
    obtain ⟨q, h1, h2⟩ := List.mem_map.mp ha
    subst h2
    have e := List.perm_cons_erase h1
    have e2 : List.Perm l ((R.erase q).map u) := (h.trans (e.map u)).cons_inv
    obtain ⟨p, p1, p2⟩ := ih _ e2
    exact ⟨q :: p, (p1.cons q).trans e.symm, by rw [p2]; rfl⟩
theorem zOrd_perm {m v : Nat} (hm : m ≤ 6) (hv : v < zfc m) : List.Perm (zOrd m v (2 ^ m - 1)) (zsg id 0 m) := by
  refine (zPm_ok m _ _ (zsg_len m 0)).mp ?_
  rw [← zOrd_all m (by omega)]
  exact List.mem_map.mpr ⟨v, List.mem_range.mpr hv, rfl⟩
theorem zOrd_val {m v : Nat} {u : Nat → Nat} (hm : m ≤ 6) (hv : v < zfc m) : List.Perm ((zOrd m v (2 ^ m - 1)).map u) (zsg u 0 m) := by
  rw [zsg_map m 0]
  exact (zOrd_perm hm hv).map u
theorem zOrd_sur {m : Nat} {u : Nat → Nat} {p : List Nat} (hm : m ≤ 6) (hp : List.Perm p (zsg u 0 m)) : ∃ v, v < zfc m ∧ p = (zOrd m v (2 ^ m - 1)).map u := by
  rw [zsg_map m 0] at hp
  obtain ⟨q, h1, h2⟩ := zpm_val _ _ hp
  have h3 := (zPm_ok m _ _ (zsg_len m 0)).mpr h1
  rw [← zOrd_all m (by omega)] at h3
  obtain ⟨v, h4, h5⟩ := List.mem_map.mp h3
  exact ⟨v, List.mem_range.mp h4, by rw [h2, ← h5]⟩
theorem znd_le : ∀ l1 l2 : List (List Nat), l1.Nodup → (∀ p, p ∈ l1 → p ∈ l2) → l1.length ≤ l2.length := by
  intro l1
  induction l1 with
  | nil => intro l2 _ _; exact Nat.zero_le _
  | cons a l1 ih =>
    intro l2 h1 h2
    have ha := h2 a (List.mem_cons_self)
    obtain ⟨n1, n2⟩ := List.nodup_cons.mp h1
    have := ih (l2.erase a) n2 (fun p hp => (List.mem_erase_of_ne (fun z => n1 (by rw [← z]; exact hp))).mpr (h2 p (List.mem_cons_of_mem _ hp)))
    rw [List.length_erase_of_mem ha] at this
    have hl : 0 < l2.length := List.length_pos_of_mem ha
    rw [List.length_cons]
    omega
theorem zfc_720 : ∀ m, m < 7 → zfc m ≤ 720 ∧ 0 < zfc m := by decide +kernel
