-- ===== the world behind the constructors: which cells are there, what refers to what; the numbers in them are a store =====
abbrev zS : Type := Nat → Nat → Int32
def zshape : List (Nat × List (Option Nat)) := [
  (0, [some 1, some 4, some 19, some 34, some 47, some 180, some 183, some 186, some 213]),
  (1, [some 2, none, none, none, none]),
  (2, [some 3]),
  (20, List.replicate 160 none),
  (3, [none, none, none, none, none, some 5, some 7, some 9, some 11, some 13, some 15, some 17]),
  (2, [some 6]),
  (20, List.replicate 10 none),
  (2, [some 8]),
  (20, List.replicate 10 none),
  (2, [some 10]),
  (20, List.replicate 4 none),
  (2, [some 12]),
  (20, List.replicate 4 none),
  (2, [some 14]),
  (20, List.replicate 6 none),
  (2, [some 16]),
  (20, List.replicate 6 none),
  (2, [some 18]),
  (20, List.replicate 6 none),
  (3, [none, none, none, none, none, some 20, some 22, some 24, some 26, some 28, some 30, some 32]),
  (2, [some 21]),
  (20, List.replicate 10 none),
  (2, [some 23]),
  (20, List.replicate 10 none),
  (2, [some 25]),
  (20, List.replicate 4 none),
  (2, [some 27]),
  (20, List.replicate 4 none),
  (2, [some 29]),
  (20, List.replicate 6 none),
  (2, [some 31]),
  (20, List.replicate 6 none),
  (2, [some 33]),
  (20, List.replicate 6 none),
  (4, [none, some 35, some 37, some 39, some 41, some 43, some 45]),
  (2, [some 36]),
  (20, List.replicate 4 none),
  (2, [some 38]),
  (20, List.replicate 4 none),
  (2, [some 40]),
  (20, List.replicate 4 none),
  (2, [some 42]),
  (20, List.replicate 4 none),
  (2, [some 44]),
  (20, List.replicate 40 none),
  (2, [some 46]),
  (20, List.replicate 16 none),
  (5, [some 48, some 49, none, none, none]),
  (22, [some 50, some 63, some 76, some 89, some 102, some 115, some 128, some 141]),
  (22, [some 154, some 167]),
  (4, [none, some 51, some 53, some 55, some 57, some 59, some 61]),
  (2, [some 52]),
  (20, List.replicate 4 none),
  (2, [some 54]),
  (20, List.replicate 4 none),
  (2, [some 56]),
  (20, List.replicate 4 none),
  (2, [some 58]),
  (20, List.replicate 4 none),
  (2, [some 60]),
  (20, List.replicate 40 none),
  (2, [some 62]),
  (20, List.replicate 16 none),
  (4, [none, some 64, some 66, some 68, some 70, some 72, some 74]),
  (2, [some 65]),
  (20, List.replicate 4 none),
  (2, [some 67]),
  (20, List.replicate 4 none),
  (2, [some 69]),
  (20, List.replicate 4 none),
  (2, [some 71]),
  (20, List.replicate 4 none),
  (2, [some 73]),
  (20, List.replicate 40 none),
  (2, [some 75]),
  (20, List.replicate 16 none),
  (4, [none, some 77, some 79, some 81, some 83, some 85, some 87]),
  (2, [some 78]),
  (20, List.replicate 4 none),
  (2, [some 80]),
  (20, List.replicate 4 none),
  (2, [some 82]),
  (20, List.replicate 4 none),
  (2, [some 84]),
  (20, List.replicate 4 none),
  (2, [some 86]),
  (20, List.replicate 40 none),
  (2, [some 88]),
  (20, List.replicate 16 none),
  (4, [none, some 90, some 92, some 94, some 96, some 98, some 100]),
  (2, [some 91]),
  (20, List.replicate 4 none),
  (2, [some 93]),
  (20, List.replicate 4 none),
  (2, [some 95]),
  (20, List.replicate 4 none),
  (2, [some 97]),
  (20, List.replicate 4 none),
  (2, [some 99]),
  (20, List.replicate 40 none),
  (2, [some 101]),
  (20, List.replicate 16 none),
  (4, [none, some 103, some 105, some 107, some 109, some 111, some 113]),
  (2, [some 104]),
  (20, List.replicate 4 none),
  (2, [some 106]),
  (20, List.replicate 4 none),
  (2, [some 108]),
  (20, List.replicate 4 none),
  (2, [some 110]),
  (20, List.replicate 4 none),
  (2, [some 112]),
  (20, List.replicate 40 none),
  (2, [some 114]),
  (20, List.replicate 16 none),
  (4, [none, some 116, some 118, some 120, some 122, some 124, some 126]),
  (2, [some 117]),
  (20, List.replicate 4 none),
  (2, [some 119]),
  (20, List.replicate 4 none),
  (2, [some 121]),
  (20, List.replicate 4 none),
  (2, [some 123]),
  (20, List.replicate 4 none),
  (2, [some 125]),
  (20, List.replicate 40 none),
  (2, [some 127]),
  (20, List.replicate 16 none),
  (4, [none, some 129, some 131, some 133, some 135, some 137, some 139]),
  (2, [some 130]),
  (20, List.replicate 4 none),
  (2, [some 132]),
  (20, List.replicate 4 none),
  (2, [some 134]),
  (20, List.replicate 4 none),
  (2, [some 136]),
  (20, List.replicate 4 none),
  (2, [some 138]),
  (20, List.replicate 40 none),
  (2, [some 140]),
  (20, List.replicate 16 none),
  (4, [none, some 142, some 144, some 146, some 148, some 150, some 152]),
  (2, [some 143]),
  (20, List.replicate 4 none),
  (2, [some 145]),
  (20, List.replicate 4 none),
  (2, [some 147]),
  (20, List.replicate 4 none),
  (2, [some 149]),
  (20, List.replicate 4 none),
  (2, [some 151]),
  (20, List.replicate 40 none),
  (2, [some 153]),
  (20, List.replicate 16 none),
  (4, [none, some 155, some 157, some 159, some 161, some 163, some 165]),
  (2, [some 156]),
  (20, List.replicate 4 none),
  (2, [some 158]),
  (20, List.replicate 4 none),
  (2, [some 160]),
  (20, List.replicate 4 none),
  (2, [some 162]),
  (20, List.replicate 4 none),
  (2, [some 164]),
  (20, List.replicate 40 none),
  (2, [some 166]),
  (20, List.replicate 16 none),
  (4, [none, some 168, some 170, some 172, some 174, some 176, some 178]),
  (2, [some 169]),
  (20, List.replicate 4 none),
  (2, [some 171]),
  (20, List.replicate 4 none),
  (2, [some 173]),
  (20, List.replicate 4 none),
  (2, [some 175]),
  (20, List.replicate 4 none),
  (2, [some 177]),
  (20, List.replicate 40 none),
  (2, [some 179]),
  (20, List.replicate 16 none),
  (6, [some 181, none]),
  (2, [some 182]),
  (20, List.replicate 8 none),
  (7, [some 184, none]),
  (2, [some 185]),
  (20, List.replicate 10 none),
  (8, [some 187, some 188, some 191, some 193, none, none, none]),
  (23, [some 195, some 198, some 201, some 204, some 207, some 210]),
  (6, [some 189, none]),
  (2, [some 190]),
  (20, List.replicate 8 none),
  (2, [some 192]),
  (20, List.replicate 6 none),
  (2, [some 194]),
  (20, List.replicate 6 none),
  (6, [some 196, none]),
  (2, [some 197]),
  (20, List.replicate 8 none),
  (6, [some 199, none]),
  (2, [some 200]),
  (20, List.replicate 8 none),
  (6, [some 202, none]),
  (2, [some 203]),
  (20, List.replicate 8 none),
  (6, [some 205, none]),
  (2, [some 206]),
  (20, List.replicate 8 none),
  (6, [some 208, none]),
  (2, [some 209]),
  (20, List.replicate 8 none),
  (6, [some 211, none]),
  (2, [some 212]),
  (20, List.replicate 8 none),
  (9, [some 214, some 217, some 220, none, none, none, none]),
  (6, [some 215, none]),
  (2, [some 216]),
  (20, List.replicate 8 none),
  (6, [some 218, none]),
  (2, [some 219]),
  (20, List.replicate 8 none),
  (2, [some 221]),
  (20, List.replicate 16 none),
  (10, [some 223, none, some 224, some 225, none, some 226, none, some 227, some 228, none, some 229, none, some 230, some 231, none, none, none, some 232, none, some 233, some 234, none, none, none, none, none, none, none, some 235, none, some 236, some 237, none, none, some 238]),
  (20, List.replicate 803 none),
  (21, List.replicate 2 none),
  (20, List.replicate 160 none),
  (20, List.replicate 56 none),
  (20, List.replicate 10 none),
  (20, List.replicate 10 none),
  (20, List.replicate 18 none),
  (20, List.replicate 4 none),
  (20, List.replicate 4 none),
  (20, List.replicate 8 none),
  (20, List.replicate 48 none),
  (20, List.replicate 6 none),
  (20, List.replicate 8 none),
  (20, List.replicate 8 none),
  (20, List.replicate 8 none),
  (20, List.replicate 16 none)]
def zsh (c : Nat) : Option (Nat × List (Option Nat)) := zshape[c]?
def zlen (c : Nat) : Nat := match zsh c with
  | some q => q.2.length
  | none => 0
/-- what a row of references holds -/
def zel (c i : Nat) : Nat := match zsh c with
  | some q => ((q.2[i]?).join).getD 0
  | none => 0
def zval (g : zS) (c j : Nat) (o : Option Nat) : Value := match o with
  | some r => .ref r
  | none => .int (g c j)
def zsl (g : zS) (c : Nat) (sl : List (Option Nat)) : List Value := sl.mapIdx (fun j o => zval g c j o)
def wd (g : zS) : zW := zshape.mapIdx (fun c sh => (sh.1, zsl g c sh.2))
def zup (g : zS) (c k : Nat) (v : Int32) : zS := fun c2 k2 => if c2 = c then (if k2 = k then v else g c2 k2) else g c2 k2
theorem wd_get {g : zS} {c t : Nat} {sl : List (Option Nat)} (h : zsh c = some (t, sl)) : (wd g)[c]? = some (t, zsl g c sl) := by
  unfold wd
  rw [List.getElem?_mapIdx]
  show (zsh c).map _ = _
  rw [h]
  rfl
theorem zsl_get {g : zS} {c k : Nat} {sl : List (Option Nat)} {o : Option Nat} (h : sl[k]? = some o) : (zsl g c sl)[k]? = some (zval g c k o) := by
  unfold zsl
  rw [List.getElem?_mapIdx, h]
  rfl
theorem zsl_len {g : zS} {c : Nat} {sl : List (Option Nat)} : (zsl g c sl).length = sl.length := by
  unfold zsl
  rw [List.length_mapIdx]
theorem zsl_set {g : zS} {c k : Nat} {sl : List (Option Nat)} (h : sl[k]? = some none) (v : Int32) : (zsl g c sl).set k (.int v) = zsl (zup g c k v) c sl := by
  apply List.ext_getElem?
  intro i
  unfold zsl
  rw [List.getElem?_set, List.getElem?_mapIdx, List.getElem?_mapIdx, List.length_mapIdx]
  by_cases hk : k = i
  · subst hk
    rw [if_pos rfl, if_pos (List.getElem?_eq_some_iff.mp h).1, h]
    show some (Value.int v) = some (Value.int (zup g c k v c k))
    unfold zup
    rw [if_pos rfl, if_pos rfl]
  · rw [if_neg hk]
    cases hi : sl[i]? with
    | none => rfl
    | some o =>
      cases o with
      | some r => rfl
      | none =>
        show some (Value.int (g c i)) = some (Value.int (zup g c k v c i))
        unfold zup
        rw [if_pos rfl, if_neg (Ne.symm hk)]
theorem zsl_other {g : zS} {c c2 k : Nat} {sl : List (Option Nat)} (h : c2 ≠ c) (v : Int32) : zsl (zup g c k v) c2 sl = zsl g c2 sl := by
  apply List.ext_getElem?
  intro i
  unfold zsl
  rw [List.getElem?_mapIdx, List.getElem?_mapIdx]
  cases hi : sl[i]? with
  | none => rfl
  | some o =>
    cases o with
    | some r => rfl
    | none =>
      show some (Value.int (zup g c k v c2 i)) = some (Value.int (g c2 i))
      unfold zup
      rw [if_neg h]
theorem wd_set {g : zS} {c t k : Nat} {sl : List (Option Nat)} (h : zsh c = some (t, sl)) (hk : sl[k]? = some none) (v : Int32) : (wd g).set c (t, (zsl g c sl).set k (.int v)) = wd (zup g c k v) := by
  rw [zsl_set hk]
  have hc : zshape[c]? = some (t, sl) := h
  apply List.ext_getElem?
  intro i
  unfold wd
  rw [List.getElem?_set, List.getElem?_mapIdx, List.getElem?_mapIdx, List.length_mapIdx]
  by_cases hi : c = i
  · subst hi
    rw [if_pos rfl, if_pos (List.getElem?_eq_some_iff.mp hc).1, hc]
    rfl
  · rw [if_neg hi]
    cases hz : zshape[i]? with
    | none => rfl
    | some q =>
      show some (q.1, zsl g i q.2) = some (q.1, zsl (zup g c k v) i q.2)
      rw [zsl_other (Ne.symm hi)]
/-- an int array, a row, and the things made of rows -/
def zArr (a : Nat) : Prop := zsh a = some (20, List.replicate (zlen a) none)
def zRow (o : Nat) : Prop := zsh o = some (2, [some (o + 1)]) ∧ zArr (o + 1)
def zLine (o : Nat) : Prop := zsh o = some (6, [some (o + 1), none]) ∧ zRow (o + 1)
def zState (o : Nat) : Prop := zsh o = some (4, [none, some (o + 1), some (o + 3), some (o + 5), some (o + 7), some (o + 9), some (o + 11)]) ∧ zRow (o + 1) ∧ zRow (o + 3) ∧ zRow (o + 5) ∧ zRow (o + 7) ∧ zRow (o + 9) ∧ zRow (o + 11)
def zTold (o : Nat) : Prop := zsh o = some (3, [none, none, none, none, none, some (o + 1), some (o + 3), some (o + 5), some (o + 7), some (o + 9), some (o + 11), some (o + 13)]) ∧ zRow (o + 1) ∧ zRow (o + 3) ∧ zRow (o + 5) ∧ zRow (o + 7) ∧ zRow (o + 9) ∧ zRow (o + 11) ∧ zRow (o + 13)
-- ===== the small machine over a store =====
def zG2 (L : Nat) (xs : Nat → Int32) (d : Nat) (M : zPM) (pc : Nat) (ls : zL) (st : List Value) (g : zS) (r : Option Value) (g' : zS) : Prop := ∃ n, zRun L xs (zEv L xs d) M n pc ls st (wd g) r (wd g')
abbrev zE2 (L : Nat) (xs : Nat → Int32) (d j : Nat) (As : List Value) (g : zS) (r : Option Value) (g' : zS) : Prop := zEv L xs d j As (wd g) r (wd g')
/-- an index within -/
abbrev zin (i : Int32) (n : Nat) : Prop := 0 ≤ i.toInt ∧ i.toInt < n
theorem zin_vp {i : Int32} {n : Nat} (h : zin i n) : vp_in i n := vp_in_iff.mpr h
theorem zin_lt {i : Int32} {n : Nat} (h : zin i n) : i.toNatClampNeg < n := by
  have h2 := zin_vp h
  exact Nat.not_le.mp fun q => h2 (Or.inr q)
/-- fewer locals known -/
def zle : zL → zL → Prop
  | [], [] => True
  | some v :: a, b :: c => b = some v ∧ zle a c
  | none :: a, b :: c => zo b = true ∧ zle a c
  | _, _ => False
