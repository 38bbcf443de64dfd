-- ===== what the constructors make, by running them =====
def zstF (M : zPM) (i : Instr) (len pc : Nat) (ls : zL) (st : List Value) (w : zW) : Option zSR := match i with
  | .aload_n k => match ls[(k : Nat)]? with
    | some (some v) => if len = 1 ∧ zrv v = true then some (zgo (pc + 1) ls (v :: st) w) else none
    | _ => none
  | .iload_n k => match ls[(k : Nat)]? with
    | some (some (.int x)) => if len = 1 then some (zgo (pc + 1) ls (.int x :: st) w) else none
    | _ => none
  | .iconst n => if len = 1 then some (zgo (pc + 1) ls (.int (Int32.ofInt n) :: st) w) else none
  | .bipush n => if len = 2 then some (zgo (pc + 2) ls (.int (Int8.ofInt n).toInt32 :: st) w) else none
  | .sipush n => if len = 3 then some (zgo (pc + 3) ls (.int (Int16.ofInt n).toInt32 :: st) w) else none
  | .istore_n k => match st with
    | .int x :: rest => if len = 1 ∧ znl ls = true ∧ (k : Nat) < ls.length then some (zgo (pc + 1) (ls.set (k : Nat) (some (.int x))) rest w) else none
    | _ => none
  | .astore_n k => match st with
    | v :: rest => if len = 1 ∧ zrv v = true ∧ znl ls = true ∧ (k : Nat) < ls.length then some (zgo (pc + 1) (ls.set (k : Nat) (some v)) rest w) else none
    | _ => none
  | .iinc k n => match ls[k]? with
    | some (some (.int x)) => if len = 3 ∧ znl ls = true then some (zgo (pc + 3) (ls.set k (some (.int (x + Int32.ofInt n)))) st w) else none
    | _ => none
  | .dup => match st with
    | v :: rest => if len = 1 ∧ v.category = 1 then some (zgo (pc + 1) ls (v :: v :: rest) w) else none
    | _ => none
  | .ifCond .ge off => match st with
    | .int x :: rest => if len = 3 ∧ 0 ≤ (pc : Int) + off then (if 0 ≤ x then some (zgo ((pc : Int) + off).toNat ls rest w) else some (zgo (pc + 3) ls rest w)) else none
    | _ => none
  | .if_icmp .ge off => match st with
    | .int y :: .int x :: rest => if len = 3 ∧ 0 ≤ (pc : Int) + off then (if y ≤ x then some (zgo ((pc : Int) + off).toNat ls rest w) else some (zgo (pc + 3) ls rest w)) else none
    | _ => none
  | .goto off => if len = 3 ∧ 0 ≤ (pc : Int) + off then some (zgo ((pc : Int) + off).toNat ls st w) else none
  | .getfield ix => match st with
    | .ref o :: rest => match zfx M.2.2.2.2 ix, w[o]? with
      | some (ci, k), some (t, fs) => match fs[k]? with
        | some v => if len = 3 ∧ t = ci then some (zgo (pc + 3) ls (v :: rest) w) else none
        | none => none
      | _, _ => none
    | _ => none
  | .putfield ix => match st with
    | v :: .ref o :: rest => match zfx M.2.2.2.2 ix, w[o]? with
      | some (ci, k), some (t, fs) => if len = 3 ∧ t = ci ∧ k < fs.length ∧ zfit ci k v = true ∧ (zfin ci k = true → M.1.name = "<init>" ∧ zcn ci = M.1.cls) then some (zgo (pc + 3) ls rest (w.set o (ci, fs.set k v))) else none
      | _, _ => none
    | _ => none
  | .aastore => match st with
    | .ref q :: .int j :: .ref o :: rest => match w[q]?, w[o]? with
      | some (ci, fs), some (t, sl) => if len = 1 ∧ (ci = 4 ∨ ci = 6) ∧ t = zacl ci ∧ (0 ≤ j.toInt ∧ j.toInt < sl.length) then some (zgo (pc + 1) ls rest (w.set o (t, sl.set j.toNatClampNeg (.ref q)))) else none
      | _, _ => none
    | _ => none
  | .arraylength => match st with
    | .ref o :: rest => match w[o]? with
      | some (t, sl) => if len = 1 ∧ 20 ≤ t ∧ t ≤ 23 then some (zgo (pc + 1) ls (.int (Int32.ofNat sl.length) :: rest) w) else none
      | none => none
    | _ => none
  | .new ix => match zkx M.2.2.2.2 ix with
    | some ci => if len = 3 ∧ w.length < zlim then some (zgo (pc + 3) ls (.ref w.length :: st) (w ++ [(ci, zblank ci)])) else none
    | none => none
  | .newarray at_ => match st with
    | .int n :: rest => if len = 2 ∧ ¬ n < 0 ∧ n.toNatClampNeg ≤ 100000 ∧ w.length < zlim then (if at_ = .int then some (zgo (pc + 2) ls (.ref w.length :: rest) (w ++ [(20, List.replicate n.toNatClampNeg (.int 0))])) else if at_ = .boolean then some (zgo (pc + 2) ls (.ref w.length :: rest) (w ++ [(21, List.replicate n.toNatClampNeg (.int 0))])) else none) else none
    | _ => none
  | .anewarray ix => match st, zkx M.2.2.2.2 ix with
    | .int n :: rest, some ci => if len = 3 ∧ ¬ n < 0 ∧ n.toNatClampNeg ≤ 100000 ∧ w.length < zlim ∧ (ci = 4 ∨ ci = 6) then some (zgo (pc + 3) ls (.ref w.length :: rest) (w ++ [(zacl ci, List.replicate n.toNatClampNeg .null)])) else none
    | _, _ => none
  | .invokespecial ix => match zmx M.2.2.2.2 ix with
    | some (j, kd) => if len = 3 ∧ kd = 2 then (if j = 1000 then (match st with
        | .ref o :: rest => if zcat rest ≤ 8 then some (zgo (pc + 3) ls rest w) else none
        | _ => none) else (match zpms[j]?, zna[j]? with
        | some N, some n => match st.drop n with
          | .ref o :: rest => if N.1.name = "<init>" ∧ N.2.2.2.1 = none ∧ (st.take n).length = n ∧ zcat rest ≤ 8 then some (.inr (.inr (j, .ref o :: (st.take n).reverse, rest))) else none
          | _ => none
        | _, _ => none)) else none
    | none => none
  | .return_ => if len = 1 ∧ st = [] ∧ M.2.2.2.1 = none then some (.inr (.inl none)) else none
  | _ => none
theorem zstF_ok {L : Nat} {xs : Nat → Int32} {M : zPM} {i : Instr} {len pc : Nat} {ls : zL} {st : List Value} {w : zW} {sr : zSR} (h : zstF M i len pc ls st w = some sr) : zStep L xs M i len pc ls st w sr := by
  unfold zstF at h
  split at h
  · split at h
    · rename_i v hv
      split at h
      · rename_i hc; cases h; exact ⟨hc.1, v, hv, hc.2, rfl⟩
      · cases h
    · cases h
  · split at h
    · rename_i x hv
      split at h
      · rename_i hc; cases h; exact ⟨hc, x, hv, rfl⟩
      · cases h
    · cases h
  · split at h
    · rename_i hc; cases h; exact ⟨hc, rfl⟩
    · cases h
  · split at h
    · rename_i hc; cases h; exact ⟨hc, rfl⟩
    · cases h
  · split at h
    · rename_i hc; cases h; exact ⟨hc, rfl⟩
    · cases h
  · split at h
    · rename_i x rest
      split at h
      · rename_i hc; cases h; exact ⟨hc.1, x, rest, rfl, hc.2.1, hc.2.2, rfl⟩
      · cases h
    · cases h
  · split at h
    · rename_i v rest
      split at h
      · rename_i hc; cases h; exact ⟨hc.1, v, rest, rfl, hc.2.1, hc.2.2.1, hc.2.2.2, rfl⟩
      · cases h
    · cases h
  · split at h
    · rename_i x hv
      split at h
      · rename_i hc; cases h; exact ⟨hc.1, x, hv, hc.2, rfl⟩
      · cases h
    · cases h
  · split at h
    · rename_i v rest
      split at h
      · rename_i hc; cases h; exact ⟨hc.1, v, rest, rfl, hc.2, rfl⟩
      · cases h
    · cases h
  · split at h
    · rename_i x rest
      split at h
      · rename_i hc
        have ht := (Int.toNat_of_nonneg hc.2).symm
        split at h
        · rename_i h0; cases h; exact ⟨hc.1, x, rest, _, rfl, ht, Or.inl ⟨h0, rfl⟩⟩
        · rename_i h0; cases h; exact ⟨hc.1, x, rest, _, rfl, ht, Or.inr ⟨h0, rfl⟩⟩
      · cases h
    · cases h
  · split at h
    · rename_i y x rest
      split at h
      · rename_i hc
        have ht := (Int.toNat_of_nonneg hc.2).symm
        split at h
        · rename_i h0; cases h; exact ⟨hc.1, x, y, rest, _, rfl, ht, Or.inl ⟨h0, rfl⟩⟩
        · rename_i h0; cases h; exact ⟨hc.1, x, y, rest, _, rfl, ht, Or.inr ⟨h0, rfl⟩⟩
      · cases h
    · cases h
  · split at h
    · rename_i hc; cases h; exact ⟨hc.1, _, (Int.toNat_of_nonneg hc.2).symm, rfl⟩
    · cases h
  · split at h
    · rename_i o rest
      split at h
      · rename_i ci k t fs h1 h2
        split at h
        · rename_i v hv
          split at h
          · rename_i hc; obtain ⟨hc1, rfl⟩ := hc; cases h; exact ⟨hc1, o, rest, _, k, fs, v, rfl, h1, h2, hv, rfl⟩
          · cases h
        · cases h
      · cases h
    · cases h
  · split at h
    · rename_i v o rest
      split at h
      · rename_i ci k t fs h1 h2
        split at h
        · rename_i hc; obtain ⟨hc1, rfl, hc2, hc3, hc4⟩ := hc; cases h; exact ⟨hc1, v, o, rest, _, k, fs, rfl, h1, h2, hc2, hc3, hc4, rfl⟩
        · cases h
      · cases h
    · cases h
  · split at h
    · rename_i q j o rest
      split at h
      · rename_i ci fs t sl h1 h2
        split at h
        · rename_i hc; obtain ⟨hc1, hc2, rfl, hc3⟩ := hc; cases h; exact ⟨hc1, q, j, o, rest, _, sl, ci, fs, rfl, hc2, rfl, h1, h2, vp_in_iff.mpr hc3, rfl⟩
        · cases h
      · cases h
    · cases h
  · split at h
    · rename_i o rest
      split at h
      · rename_i t sl h1
        split at h
        · rename_i hc; cases h; exact ⟨hc.1, o, rest, rfl, Or.inl ⟨t, sl, h1, hc.2.1, hc.2.2, rfl⟩⟩
        · cases h
      · cases h
    · cases h
  · split at h
    · rename_i ci h1
      split at h
      · rename_i hc; cases h; exact ⟨hc.1, ci, h1, hc.2, rfl⟩
      · cases h
    · cases h
  · split at h
    · rename_i n rest
      split at h
      · rename_i hc
        split at h
        · rename_i ha; cases h; exact ⟨hc.1, n, rest, 20, rfl, hc.2.1, hc.2.2.1, Or.inl ⟨ha, rfl⟩, hc.2.2.2, rfl⟩
        · split at h
          · rename_i ha; cases h; exact ⟨hc.1, n, rest, 21, rfl, hc.2.1, hc.2.2.1, Or.inr ⟨ha, rfl⟩, hc.2.2.2, rfl⟩
          · cases h
      · cases h
    · cases h
  · split at h
    · rename_i n rest ci h1
      split at h
      · rename_i hc; cases h; exact ⟨hc.1, n, rest, ci, rfl, hc.2.1, hc.2.2.1, h1, hc.2.2.2.2, hc.2.2.2.1, rfl⟩
      · cases h
    · cases h
  · split at h
    · rename_i j kd h1
      split at h
      · rename_i hc
        obtain ⟨hc1, rfl⟩ := hc
        split at h
        · rename_i hj
          subst hj
          split at h
          · rename_i o rest
            split at h
            · rename_i hk; cases h; exact ⟨hc1, Or.inl ⟨o, rest, h1, rfl, hk, rfl⟩⟩
            · cases h
          · cases h
        · split at h
          · rename_i N n h2 h3
            split at h
            · rename_i o rest hd
              split at h
              · rename_i hk
                cases h
                refine ⟨hc1, Or.inr ⟨j, (st.take n).reverse, o, rest, N, h1, h2, by rw [List.length_reverse, hk.2.2.1]; exact h3, hk.1, hk.2.1, ?_, hk.2.2.2, rfl⟩⟩
                rw [List.reverse_reverse, ← hd, List.take_append_drop]
              · cases h
            · cases h
          · cases h
      · cases h
    · cases h
  · split at h
    · rename_i hc; cases h; exact ⟨hc.1, hc.2.1, hc.2.2, rfl⟩
    · cases h
  · cases h
def zrunF (E : Nat → List Value → zW → Option (Option Value × zW)) (M : zPM) : Nat → Nat → zL → List Value → zW → Option (Option Value × zW)
  | 0, _, _, _, _ => none
  | n + 1, pc, ls, st, w => match decode M.2.1 pc with
    | .ok (i, len) => match zstF M i len pc ls st w with
      | some (.inl (pc2, ls2, st2, w2)) => zrunF E M n pc2 ls2 st2 w2
      | some (.inr (.inl v)) => some (v, w)
      | some (.inr (.inr (j, As, rest))) => match E j As w with
        | some (v, w2) => zrunF E M n (pc + len) ls (v.toList ++ rest) w2
        | none => none
      | none => none
    | .error _ => none
def zevF : Nat → Nat → List Value → zW → Option (Option Value × zW)
  | 0, _, _, _ => none
  | d + 1, j, As, w => match zpms[j]? with
    | some M => if M.2.2.2.2 ≠ 99 ∧ (zargs As).length ≤ M.2.2.1 then zrunF (zevF d) M 1000 0 (zini M.2.2.1 As) [] w else none
    | none => none
theorem zrunF_ok {L : Nat} {xs : Nat → Int32} {E : Nat → List Value → zW → Option (Option Value × zW)} {E2 : Nat → List Value → zW → Option Value → zW → Prop} (hE : ∀ j As w v w2, E j As w = some (v, w2) → E2 j As w v w2) {M : zPM} {r : Option Value} {w' : zW} : ∀ (n pc : Nat) (ls : zL) (st : List Value) (w : zW), zrunF E M n pc ls st w = some (r, w') → zRun L xs E2 M n pc ls st w r w' := by
  intro n
  induction n with
  | zero => intro pc ls st w h; cases h
  | succ n ih =>
    intro pc ls st w h
    unfold zrunF at h
    split at h
    · rename_i i len hd
      split at h
      · rename_i pc2 ls2 st2 w2 hs
        exact ⟨i, len, _, hd, zstF_ok hs, ih _ _ _ _ h⟩
      · rename_i v hs
        cases h
        exact ⟨i, len, _, hd, zstF_ok hs, rfl, rfl⟩
      · rename_i j As rest hs
        split at h
        · rename_i v w2 he
          exact ⟨i, len, _, hd, zstF_ok hs, v, w2, hE _ _ _ _ _ he, ih _ _ _ _ h⟩
        · cases h
      · cases h
    · cases h
theorem zevF_ok {L : Nat} {xs : Nat → Int32} : ∀ (d j : Nat) (As : List Value) (w : zW) (v : Option Value) (w2 : zW), zevF d j As w = some (v, w2) → zEv L xs d j As w v w2
  | 0, _, _, _, _, _, h => by cases h
  | d + 1, j, As, w, v, w2, h => by
    unfold zevF at h
    split at h
    · rename_i M hM
      split at h
      · rename_i hc
        exact Or.inr (Or.inr ⟨M, 1000, hM, hc.1, hc.2, zrunF_ok (fun j As w v w2 h => zevF_ok d j As w v w2 h) _ _ _ _ _ h⟩)
      · cases h
    · cases h
/-- a run up to a place -/
def zpreF (E : Nat → List Value → zW → Option (Option Value × zW)) (M : zPM) (stop : Nat) : Nat → Nat → zL → List Value → zW → Option (zL × List Value × zW)
  | 0, _, _, _, _ => none
  | n + 1, pc, ls, st, w => if pc = stop then some (ls, st, w) else match decode M.2.1 pc with
    | .ok (i, len) => match zstF M i len pc ls st w with
      | some (.inl (pc2, ls2, st2, w2)) => zpreF E M stop n pc2 ls2 st2 w2
      | some (.inr (.inl v)) => none
      | some (.inr (.inr (j, As, rest))) => match E j As w with
        | some (v, w2) => zpreF E M stop n (pc + len) ls (v.toList ++ rest) w2
        | none => none
      | none => none
    | .error _ => none
theorem zpreF_ok {L : Nat} {xs : Nat → Int32} {E : Nat → List Value → zW → Option (Option Value × zW)} {E2 : Nat → List Value → zW → Option Value → zW → Prop} (hE : ∀ j As w v w2, E j As w = some (v, w2) → E2 j As w v w2) {M : zPM} {stop k : Nat} {ls1 : zL} {st1 : List Value} {w1 : zW} {r : Option Value} {w' : zW} (hk : zRun L xs E2 M k stop ls1 st1 w1 r w') : ∀ (n pc : Nat) (ls : zL) (st : List Value) (w : zW), zpreF E M stop n pc ls st w = some (ls1, st1, w1) → ∃ k2, zRun L xs E2 M k2 pc ls st w r w' := by
  intro n
  induction n with
  | zero => intro pc ls st w h; cases h
  | succ n ih =>
    intro pc ls st w h
    unfold zpreF at h
    split at h
    · rename_i hp
      subst hp
      cases h
      exact ⟨k, hk⟩
    · split at h
      · rename_i i len hd
        split at h
        · rename_i pc2 ls2 st2 w2 hs
          obtain ⟨k2, h2⟩ := ih _ _ _ _ h
          exact ⟨k2 + 1, i, len, _, hd, zstF_ok hs, h2⟩
        · cases h
        · rename_i j As rest hs
          split at h
          · rename_i v w2 he
            obtain ⟨k2, h2⟩ := ih _ _ _ _ h
            exact ⟨k2 + 1, i, len, _, hd, zstF_ok hs, v, w2, hE _ _ _ _ _ he, h2⟩
          · cases h
        · cases h
      · cases h
