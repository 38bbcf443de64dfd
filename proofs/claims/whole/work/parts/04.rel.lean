-- ===== what the tables' lookups give =====
theorem zfind {α : Type} {l : List (Nat × α)} {k : Nat} {p : (Nat × α) → Bool} (hp : l.all p = true) {e : Nat × α} (h : l.find? (fun e => e.1 == k) = some e) : e.1 = k ∧ p e = true := by
  have h1 := List.find?_some h
  have h2 := List.mem_of_find?_eq_some h
  exact ⟨by simpa using h1, List.all_eq_true.mp hp e h2⟩
theorem zkey {oc ix : Nat} (h : ix < 1000) : (oc * 1000 + ix) / 1000 = oc ∧ (oc * 1000 + ix) % 1000 = ix := by omega
theorem zfx_spec {oc ix ci k : Nat} (h : zfx oc ix = some (ci, k)) : ∃ q : vw_C, zcl[ci]? = some q ∧ k < q.2.2 ∧ (Cond.fieldLink (zcn oc) ix q.1 (q.2.1 k).2.1 (q.2.1 k).2.2.1 ∈ zTB ∨ ∃ ho, Cond.fieldLinkNest (zcn oc) ix q.1 (q.2.1 k).2.1 (q.2.1 k).2.2.1 ho ∈ zNW) := by
  unfold zfx at h
  split at h
  · rename_i hix
    cases hf : zfl.find? (fun e => e.1 == oc * 1000 + ix) with
    | none => rw [hf] at h; cases h
    | some e =>
      rw [hf] at h
      obtain ⟨h1, h2⟩ := zfind zfl_ok hf
      have h3 := Option.some.inj h
      simp only [Prod.mk.injEq] at h3
      obtain ⟨rfl, rfl⟩ := h3
      obtain ⟨e1, e2⟩ := zkey (oc := oc) hix
      unfold zflW at h2
      rw [h1, e1, e2] at h2
      split at h2
      · rename_i q hq
        simp only [Bool.and_eq_true, decide_eq_true_eq] at h2
        refine ⟨q, hq, h2.1, ?_⟩
        have h4 := h2.2
        split at h4
        · exact Or.inl (zok_in h4)
        · exact Or.inr ⟨_, zokn_in h4⟩
      · cases h2
  · cases h
theorem zkx_spec {oc ix ci : Nat} (h : zkx oc ix = some ci) : ci < 11 ∧ Cond.classLink (zcn oc) ix (zcn ci) ∈ zTB := by
  unfold zkx at h
  split at h
  · rename_i hix
    cases hf : zkl.find? (fun e => e.1 == oc * 1000 + ix) with
    | none => rw [hf] at h; cases h
    | some e =>
      rw [hf] at h
      obtain ⟨h1, h2⟩ := zfind zkl_ok hf
      have h3 : e.2.1 = ci := Option.some.inj h
      subst h3
      obtain ⟨e1, e2⟩ := zkey (oc := oc) hix
      unfold zklW at h2
      rw [h1, e1, e2] at h2
      simp only [Bool.and_eq_true, decide_eq_true_eq] at h2
      exact ⟨h2.1, zok_in h2.2⟩
  · cases h
theorem zix_spec {oc ix : Nat} {v : Int32} (h : zix oc ix = some v) : Cond.constant (zcn oc) ix v ∈ zTB := by
  unfold zix at h
  split at h
  · rename_i hix
    cases hf : zil.find? (fun e => e.1 == oc * 1000 + ix) with
    | none => rw [hf] at h; cases h
    | some e =>
      rw [hf] at h
      obtain ⟨h1, h2⟩ := zfind zil_ok hf
      have h3 : e.2.1 = v := Option.some.inj h
      subst h3
      obtain ⟨e1, e2⟩ := zkey (oc := oc) hix
      unfold zilW at h2
      rw [h1, e1, e2] at h2
      exact zok_in h2
  · cases h
theorem zlx_spec {oc ix : Nat} {v : Int64} (h : zlx oc ix = some v) : Cond.constantLong (zcn oc) ix v ∈ zTB := by
  unfold zlx at h
  split at h
  · rename_i hix
    cases hf : zll.find? (fun e => e.1 == oc * 1000 + ix) with
    | none => rw [hf] at h; cases h
    | some e =>
      rw [hf] at h
      obtain ⟨h1, h2⟩ := zfind zll_ok hf
      have h3 : e.2.1 = v := Option.some.inj h
      subst h3
      obtain ⟨e1, e2⟩ := zkey (oc := oc) hix
      unfold zllW at h2
      rw [h1, e1, e2] at h2
      exact zok_in h2
  · cases h
theorem zmx_spec {oc ix j kd : Nat} (h : zmx oc ix = some (j, kd)) : ∃ y, zmlY j = some y ∧ (Cond.methodLink (zcn oc) ix y ∈ zTB ∨ (j < 1000 ∧ ∃ ho, Cond.methodLinkNest (zcn oc) ix y ho ∈ zNW)) ∧ (kd = 0 → Cond.static y ∈ zTB) ∧ (kd ≠ 0 → Cond.instanceMethod y ∈ zTB) ∧ (kd = 1 → Cond.selects y.cls y y ∈ zTB) ∧ (j < 1000 → Cond.initialized y.cls ∈ zTB) ∧ (1000 ≤ j → Cond.methodLink (zcn oc) ix y ∈ zTB) := by
  unfold zmx at h
  split at h
  · rename_i hix
    cases hf : zml.find? (fun e => e.1 == oc * 1000 + ix) with
    | none => rw [hf] at h; cases h
    | some e =>
      rw [hf] at h
      obtain ⟨h1, a1⟩ := zfind zml_ok1 hf
      obtain ⟨-, a2⟩ := zfind zml_ok2 hf
      obtain ⟨-, a3⟩ := zfind zml_ok3 hf
      obtain ⟨-, a4⟩ := zfind zml_ok4 hf
      have h3 := Option.some.inj h
      simp only [Prod.mk.injEq] at h3
      obtain ⟨rfl, rfl⟩ := h3
      obtain ⟨e1, e2⟩ := zkey (oc := oc) hix
      unfold zmlW1 at a1
      unfold zmlW2 at a2
      unfold zmlW3 at a3
      unfold zmlW4 at a4
      rw [h1, e1, e2] at a1
      cases hy : zmlY e.2.1 with
      | none => rw [hy] at a1; cases a1
      | some y =>
        rw [hy] at a1 a2 a3 a4
        dsimp only at a1 a2 a3 a4
        refine ⟨y, rfl, ?_, fun hk => ?_, fun hk => ?_, fun hk => ?_, fun hk => ?_, fun hk => ?_⟩
        · split at a1
          · exact Or.inl (zok_in a1)
          · simp only [Bool.and_eq_true, decide_eq_true_eq] at a1
            exact Or.inr ⟨a1.1, _, zokn_in a1.2⟩
        · rw [if_pos hk] at a2
          exact zok_in a2
        · rw [if_neg hk] at a2
          exact zok_in a2
        · rw [if_pos hk] at a3
          exact zok_in a3
        · split at a4
          · rename_i hh1 hh2
            cases hh1
            exact zok_in a4
          · simp only [decide_eq_true_eq] at a4
            omega
        · split at a1
          · exact zok_in a1
          · simp only [Bool.and_eq_true, decide_eq_true_eq] at a1
            omega
  · cases h
-- ===== the classes =====
def zty (ci k : Nat) : FieldType := (parseFieldDescriptor (zdes ci k)).getD .int
def zclW (ci : Nat) : Bool := match zcl[ci]? with
  | none => false
  | some q => (List.range q.2.2).all (fun k => decide (parseFieldDescriptor (q.2.1 k).2.2.1 = some (zty ci k)) && decide (defaultValue (zty ci k) = zdv ci k) && (if zdes ci k = "I" then decide (zty ci k = .int) else match zty ci k with
    | .object _ => true
    | .array _ => true
    | _ => false) && (List.range q.2.2).all (fun a => decide (a = k) || decide ((q.2.1 a).2.1 ≠ (q.2.1 k).2.1)))
set_option maxRecDepth 100000 in
theorem zcl_ok : (List.range 11).all zclW = true := by decide +kernel
theorem zcl_lt {ci : Nat} {q : vw_C} (h : zcl[ci]? = some q) : ci < 11 := by
  have := (List.getElem?_eq_some_iff.mp h).1
  exact this
theorem zcl_get {ci : Nat} (h : ci < 11) : ∃ q, zcl[ci]? = some q := ⟨_, List.getElem?_eq_getElem (l := zcl) (i := ci) h⟩
theorem zcl_spec {ci : Nat} {q : vw_C} (h : zcl[ci]? = some q) : q.1 = zcn ci ∧ Cond.instantiable q.1 q.2.2 ∈ zTB ∧ Cond.initialized q.1 ∈ zTB ∧ (∀ w ∈ u_ws q.1 q.2.1 q.2.2, w ∈ zTB) ∧ (∀ k, k < q.2.2 → (q.2.1 k).1 = q.1) := by
  have h1 := List.all_eq_true.mp zkp_ok ci (List.mem_range.mpr (zcl_lt h))
  unfold zkpW at h1
  rw [h] at h1
  split at h1
  · rename_i q' e hq he
    cases hq
    simp only [Bool.and_eq_true, decide_eq_true_eq] at h1
    obtain ⟨⟨⟨a1, a2⟩, a3⟩, a4⟩ := h1
    have key : ∀ k, k < q.2.2 → u_lay q.1 q.2.1 k ∈ zTB ∧ (q.2.1 k).1 = q.1 := by
      intro k hk
      have h2 := List.all_eq_true.mp a4 k (List.mem_range.mpr hk)
      split at h2
      · simp only [Bool.and_eq_true, decide_eq_true_eq] at h2
        exact ⟨zok_in h2.1, h2.2⟩
      · cases h2
    refine ⟨a1, zok_in a2, zok_in a3, fun w hw => ?_, fun k hk => (key k hk).2⟩
    obtain ⟨k, hk, rfl⟩ := List.mem_map.mp hw
    exact (key k (List.mem_range.mp hk)).1
  · cases h1
theorem zcl_spec2 {ci : Nat} {q : vw_C} (h : zcl[ci]? = some q) : ∀ k, k < q.2.2 → parseFieldDescriptor (q.2.1 k).2.2.1 = some (zty ci k) ∧ defaultValue (zty ci k) = zdv ci k ∧ (zdes ci k = "I" → zty ci k = .int) ∧ (zdes ci k ≠ "I" → (∃ n, zty ci k = .object n) ∨ ∃ t, zty ci k = .array t) ∧ ∀ a, a < q.2.2 → a ≠ k → (q.2.1 a).2.1 ≠ (q.2.1 k).2.1 := by
  intro k hk
  have h1 := List.all_eq_true.mp zcl_ok ci (List.mem_range.mpr (zcl_lt h))
  unfold zclW at h1
  rw [h] at h1
  have h2 := List.all_eq_true.mp h1 k (List.mem_range.mpr hk)
  simp only [Bool.and_eq_true, decide_eq_true_eq] at h2
  obtain ⟨⟨⟨a1, a2⟩, a3⟩, a4⟩ := h2
  refine ⟨a1, a2, fun hI => ?_, fun hI => ?_, fun a ha hne => ?_⟩
  · rw [if_pos hI] at a3
    simpa using a3
  · rw [if_neg hI] at a3
    split at a3
    · rename_i n hn; exact Or.inl ⟨n, hn⟩
    · rename_i n hn; exact Or.inr ⟨n, hn⟩
    · cases a3
  · have h3 := List.all_eq_true.mp a4 a (List.mem_range.mpr ha)
    simp only [Bool.or_eq_true, decide_eq_true_eq] at h3
    exact h3.resolve_left hne
theorem zdes_eq {ci : Nat} {q : vw_C} (h : zcl[ci]? = some q) (k : Nat) : zdes ci k = (q.2.1 k).2.2.1 ∧ zfin ci k = (q.2.1 k).2.2.2 ∧ znf ci = q.2.2 := by
  unfold zdes zfin znf
  rw [h]
  exact ⟨rfl, rfl, rfl⟩
theorem zmeth {j : Nat} {M : zPM} (h : zpms[j]? = some M) (ho : M.2.2.2.2 ≠ 99 ∨ j = zjLen ∨ j = zjCh) : ∃ n, zna[j]? = some n ∧ M.2.2.1 ≤ 16 ∧ M.1.cls ≠ "java/lang/invoke/MethodHandle" ∧ M.1.cls ≠ "java/lang/invoke/VarHandle" ∧ plainName M.1.cls = true ∧ (parseMethodDescriptor M.1.desc).map (fun d => d.parameters.length) = some n ∧ Cond.initialized M.1.cls ∈ zTB ∧ (M.2.2.2.2 ≠ 99 → zcn M.2.2.2.2 = M.1.cls) := by
  have hl : j < 231 := (List.getElem?_eq_some_iff.mp h).1
  have h1 := List.all_eq_true.mp zmp_ok j (List.mem_range.mpr hl)
  unfold zmpW at h1
  rw [h] at h1
  split at h1
  · rename_i M' e n hM he hn
    cases hM
    split at h1
    · rename_i hc
      simp only [Bool.and_eq_true, decide_eq_true_eq, Bool.not_eq_true', Bool.or_eq_false_iff, decide_eq_false_iff_not] at hc
      rcases ho with ho | ho | ho
      · exact absurd hc.1 ho
      · exact absurd ho hc.2.1
      · exact absurd ho hc.2.2
    · simp only [Bool.and_eq_true, decide_eq_true_eq, Bool.or_eq_true] at h1
      obtain ⟨⟨⟨⟨⟨⟨b1, b2⟩, b3⟩, b4⟩, b5⟩, b6⟩, b7⟩ := h1
      exact ⟨n, hn, b1, b2, b3, b4, b5, zok_in b6, fun h => b7.resolve_left h⟩
  · cases h1
-- ===== the world in the heap =====
abbrev zG : Type := Nat × Nat × Nat × va_G × ClassId × ClassId × ClassId × ClassId × Nat × (Nat → Int32) × (Nat → Nat)
/-- the script's cell, the first new cell, the text's cell, the classes, the array classes, the script, the text's bytes -/
def zgb (G : zG) : Nat := G.1
def zgB (G : zG) : Nat := G.2.1
def zgs (G : zG) : Nat := G.2.2.1
def zgD (G : zG) : va_G := G.2.2.2.1
def zgI (G : zG) : ClassId := G.2.2.2.2.1
def zgZ (G : zG) : ClassId := G.2.2.2.2.2.1
def zgS (G : zG) : ClassId := G.2.2.2.2.2.2.1
def zgN (G : zG) : ClassId := G.2.2.2.2.2.2.2.1
def zgL (G : zG) : Nat := G.2.2.2.2.2.2.2.2.1
def zgx (G : zG) : Nat → Int32 := G.2.2.2.2.2.2.2.2.2.1
def zgv (G : zG) : Nat → Nat := G.2.2.2.2.2.2.2.2.2.2
def zad (G : zG) (k : Nat) : Nat := if k = zSCR then zgb G else if k = zSTR then zgs G else zgB G + k
def ztr (G : zG) (v : Value) : Value := match v with
  | .ref k => .ref (zad G k)
  | v => v
def zint (sl : List Value) : Nat → Int32 := fun j => match sl[j]? with
  | some (.int x) => x
  | _ => 0
def zref (G : zG) (sl : List Value) : Nat → Option Nat := fun j => match sl[j]? with
  | some (.ref k) => some (zad G k)
  | _ => none
def zconv (G : zG) (c : Nat × List Value) : va_E :=
  if c.1 = 20 then .inl (zgI G, c.2.length, .inl (zint c.2)) else if c.1 = 21 then .inl (zgZ G, c.2.length, .inl (zint c.2)) else
  if c.1 = 22 then .inl (zgS G, c.2.length, .inr (.inr (.inr (.inr (zref G c.2))))) else if c.1 = 23 then .inl (zgN G, c.2.length, .inr (.inr (.inr (.inr (zref G c.2))))) else
  .inr (c.1, c.2.map (ztr G))
def ztoW (G : zG) (w : zW) : va_W := w.mapIdx (fun k c => (zgB G + k, zconv G c))
def ztys (G : zG) : List (ClassId × FieldType) := [(zgI G, .int), (zgZ G, .boolean), (zgS G, .object "AdjectiveCoupons$State"), (zgN G, .object "AdjectiveCoupons$Line")]
abbrev zA (G : zG) : Nat → Prop := fun q => zgB G ≤ q
def zsz (w : zW) : Nat := (w.map (fun c => c.2.length)).sum
theorem zad_own {G : zG} {k : Nat} {w : zW} {c : Nat × List Value} (h : w[k]? = some c) (hl : w.length ≤ zlim) : zad G k = zgB G + k := by
  have h1 := (List.getElem?_eq_some_iff.mp h).1
  unfold zlim at hl
  unfold zad zSCR zSTR
  rw [if_neg (by omega), if_neg (by omega)]
theorem zad_new {G : zG} {w : zW} (hl : w.length < zlim) : zad G w.length = zgB G + w.length := by
  unfold zlim at hl
  unfold zad zSCR zSTR
  rw [if_neg (by omega), if_neg (by omega)]
theorem zconv_obj {G : zG} {ci : Nat} (h : ci < 11) (fs : List Value) : zconv G (ci, fs) = .inr (ci, fs.map (ztr G)) := by
  unfold zconv
  rw [if_neg (show ¬ ci = 20 by omega), if_neg (show ¬ ci = 21 by omega), if_neg (show ¬ ci = 22 by omega), if_neg (show ¬ ci = 23 by omega)]
theorem ztoW_get {G : zG} {w : zW} {k : Nat} {c : Nat × List Value} (h : w[k]? = some c) : (ztoW G w)[k]? = some (zgB G + k, zconv G c) := by
  unfold ztoW
  rw [List.getElem?_mapIdx, h]
  rfl
theorem ztoW_inv {G : zG} {w : zW} {k : Nat} {q : Nat × va_E} (h : (ztoW G w)[k]? = some q) : q.1 = zgB G + k := by
  unfold ztoW at h
  rw [List.getElem?_mapIdx] at h
  cases hw : w[k]? with
  | none => rw [hw] at h; cases h
  | some c => rw [hw] at h; cases h; rfl
theorem ztoW_set {G : zG} {w : zW} {k : Nat} (c : Nat × List Value) : ztoW G (w.set k c) = (ztoW G w).set k (zgB G + k, zconv G c) := by
  apply List.ext_getElem?
  intro i
  unfold ztoW
  rw [List.getElem?_mapIdx, List.getElem?_set, List.getElem?_set, List.getElem?_mapIdx, List.length_mapIdx]
  by_cases h : k = i
  · subst h
    rw [if_pos rfl, if_pos rfl]
    split <;> rfl
  · rw [if_neg h, if_neg h]
theorem ztoW_app {G : zG} {w : zW} (c : Nat × List Value) : ztoW G (w ++ [c]) = ztoW G w ++ [(zgB G + w.length, zconv G c)] := by
  apply List.ext_getElem?
  intro i
  unfold ztoW
  rw [List.getElem?_mapIdx]
  rcases Nat.lt_trichotomy i w.length with h | h | h
  · rw [List.getElem?_append_left h, List.getElem?_append_left (by rw [List.length_mapIdx]; exact h), List.getElem?_mapIdx]
  · subst h
    rw [List.getElem?_append_right (Nat.le_refl _), List.getElem?_append_right (by rw [List.length_mapIdx]; exact Nat.le_refl _), List.length_mapIdx, Nat.sub_self]
    rfl
  · rw [List.getElem?_eq_none (by simp; omega), List.getElem?_eq_none (by simp; omega)]
    rfl
theorem zDok {G : zG} {w : zW} : va_D (zA G) (ztoW G w) := by
  refine ⟨fun i j p q hi hj h => ?_, fun k q h => ?_⟩
  · have := ztoW_inv hi
    have := ztoW_inv hj
    omega
  · have := ztoW_inv h
    show zgB G ≤ q.1
    omega
theorem zsz_set {w : zW} {k t t2 : Nat} {sl sl2 : List Value} (h : w[k]? = some (t, sl)) (hl : sl2.length = sl.length) : zsz (w.set k (t2, sl2)) = zsz w := by
  unfold zsz
  rw [List.map_set]
  congr 1
  apply List.ext_getElem?
  intro i
  rw [List.getElem?_set]
  by_cases hk : k = i
  · subst hk
    rw [if_pos rfl, List.getElem?_map, h, List.length_map, if_pos (List.getElem?_eq_some_iff.mp h).1, hl]
    rfl
  · rw [if_neg hk]
theorem zsz_app {w : zW} {c : Nat × List Value} : zsz (w ++ [c]) = zsz w + c.2.length := by
  unfold zsz
  simp
theorem zint_set {sl : List Value} {j : Nat} {x : Int32} (h : j < sl.length) : zint (sl.set j (.int x)) = upd (zint sl) j x := by
  funext q
  unfold zint upd
  rw [List.getElem?_set]
  by_cases hq : q = j
  · subst hq
    rw [if_pos rfl, if_pos h, if_pos rfl]
  · rw [if_neg (Ne.symm hq), if_neg hq]
theorem zref_set {G : zG} {sl : List Value} {j k : Nat} (h : j < sl.length) : zref G (sl.set j (.ref k)) = va_up (zref G sl) j (some (zad G k)) := by
  funext q
  unfold zref va_up
  rw [List.getElem?_set]
  by_cases hq : q = j
  · subst hq
    rw [if_pos rfl, if_pos h, if_pos rfl]
  · rw [if_neg (Ne.symm hq), if_neg hq]
theorem zint_get {sl : List Value} {j : Nat} {x : Int32} (h : sl[j]? = some (.int x)) : zint sl j = x := by
  unfold zint
  rw [h]
theorem zref_get {G : zG} {sl : List Value} {j : Nat} {v : Value} (h : sl[j]? = some v) (hv : zrv v = true) : va_rf (zref G sl j) = ztr G v := by
  unfold zref
  rw [h]
  cases v <;> first | rfl | (simp [zrv] at hv)
theorem ztr_cat (G : zG) (v : Value) : (ztr G v).category = v.category := by cases v <;> rfl
theorem zcat_tr (G : zG) (st : List Value) : ((st.map (ztr G)).map fun v => v.category).sum = zcat st := by
  unfold zcat
  rw [List.map_map]
  congr 1
  apply List.map_congr_left
  intro v _
  exact ztr_cat G v
-- ===== locals =====
def zls (G : zG) (nL : Nat) (ls : zL) (real : Array Slot) : Prop := ls.length = nL ∧ real.size = nL ∧ lv_wf real ∧ ∀ (i : Nat) (v : Value), ls[i]? = some (some v) → real[i]? = some (.val (ztr G v))
def zasc (G : zG) (ls : zL) : List (Nat × Value) := (List.range ls.length).filterMap (fun i => match ls[i]? with
  | some (some v) => some (i, ztr G v)
  | _ => none)
theorem zasc_mem {G : zG} {ls : zL} {i : Nat} {v : Value} (h : ls[i]? = some (some v)) : (i, ztr G v) ∈ zasc G ls := by
  refine List.mem_filterMap.mpr ⟨i, List.mem_range.mpr (List.getElem?_eq_some_iff.mp h).1, ?_⟩
  rw [h]
theorem zasc_inv {G : zG} {ls : zL} {q : Nat × Value} (h : q ∈ zasc G ls) : ∃ v, ls[q.1]? = some (some v) ∧ q.2 = ztr G v := by
  obtain ⟨i, -, h2⟩ := List.mem_filterMap.mp h
  split at h2
  · rename_i v hv
    cases h2
    exact ⟨v, hv, rfl⟩
  · cases h2
theorem zls_has {G : zG} {nL : Nat} {ls : zL} {real : Array Slot} (h : zls G nL ls real) : lv_has real nL (zasc G ls) := by
  refine ⟨h.2.1, h.2.2.1, fun q hq => ?_⟩
  obtain ⟨v, h1, h2⟩ := zasc_inv hq
  rw [h2]
  exact h.2.2.2 _ _ h1
theorem znl_at {ls : zL} (h : znl ls = true) {i : Nat} {v : Value} (hi : ls[i]? = some (some v)) : v.category = 1 := by
  have h1 := List.all_eq_true.mp h _ (List.mem_of_getElem? hi)
  cases v <;> first | rfl | (simp [zo] at h1)
theorem zls_set {G : zG} {nL : Nat} {ls : zL} {real real' : Array Slot} (h : zls G nL ls real) (hn : znl ls = true) {k : Nat} (hk : k < nL) {v : Value} (h' : lv_has real' nL ((k, ztr G v) :: (zasc G ls).filter (fun q => !(q.1 == k) && !(q.1 + 1 == k && q.2.category == 2)))) : zls G nL (ls.set k (some v)) real' := by
  refine ⟨by rw [List.length_set]; exact h.1, h'.1, h'.2.1, fun i u hi => ?_⟩
  rw [List.getElem?_set] at hi
  by_cases hik : k = i
  · subst hik
    rw [if_pos rfl, if_pos (by rw [h.1]; exact hk)] at hi
    cases hi
    exact h'.2.2 (k, ztr G v) List.mem_cons_self
  · rw [if_neg hik] at hi
    refine h'.2.2 (i, ztr G u) (List.mem_cons_of_mem _ (List.mem_filter.mpr ⟨zasc_mem hi, ?_⟩))
    have hc := znl_at hn hi
    have hc2 := ztr_cat G u
    simp [Ne.symm hik, hc2, hc]
theorem zls_idx {G : zG} {ls : zL} {i : Nat} {v : Value} (h : ls[i]? = some (some v)) : ∃ k : Nat, (zasc G ls)[k]? = some (i, ztr G v) := List.getElem?_of_mem (zasc_mem h)
