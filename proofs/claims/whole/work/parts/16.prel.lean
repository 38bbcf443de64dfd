-- ===== words of the functions that the methods are turned into =====
theorem zif_some {β : Type} {c : Prop} [Decidable c] {t : Option β} {y : β} (h : (if c then t else none) = some y) : c ∧ t = some y := by
  by_cases hc : c
  · rw [if_pos hc] at h
    exact ⟨hc, h⟩
  · rw [if_neg hc] at h
    cases h
def zbd {α β : Type} (o : Option (α × zS)) (k : α → zS → Option β) : Option β := match o with
  | some q => k q.1 q.2
  | none => none
theorem zbd_some {α β : Type} {o : Option (α × zS)} {k : α → zS → Option β} {y : β} (h : zbd o k = some y) : ∃ a g, o = some (a, g) ∧ k a g = some y := by
  cases o with
  | none => cases h
  | some q => exact ⟨q.1, q.2, rfl, h⟩
def zov (z : Option Nat) : Value := match z with
  | some q => .ref q
  | none => .null
theorem zov_rv (z : Option Nat) : zrv (zov z) = true := by cases z <;> rfl
def zcs {β : Type} (z : Option Nat) (a : β) (b : Nat → β) : β := match z with
  | none => a
  | some q => b q
theorem zcs_n {β : Type} {a : β} {b : Nat → β} : zcs none a b = a := rfl
theorem zcs_s {β : Type} {q : Nat} {a : β} {b : Nat → β} : zcs (some q) a b = b q := rfl
theorem zsm {P : Nat → Prop} {e : Nat} (h : P e) : ∀ q, some e = some q → P q := fun q hq => by cases hq; exact h
/-- a row of states, a row of lines -/
def zSts (a : Nat) : Prop := zRef 22 a ∧ ∀ i : Int32, zin i (zlen a) → zState (zel a i.toNatClampNeg)
def zstB (a : Nat) : Bool := match zsh a with
  | some q => decide (q.1 = 22) && (List.range q.2.length).all (fun i => decide (q.2[i]? = some (some (zel a i))) && decide (zsh (zel a i) = some (4, [none, some (zel a i + 1), some (zel a i + 3), some (zel a i + 5), some (zel a i + 7), some (zel a i + 9), some (zel a i + 11)])) && [1, 3, 5, 7, 9, 11].all (fun k => decide (zsh (zel a i + k) = some (2, [some (zel a i + k + 1)])) && decide (zsh (zel a i + k + 1) = some (20, List.replicate (zlen (zel a i + k + 1)) none))))
  | none => false
theorem zstB_ok {a : Nat} (h : zstB a = true) : zSts a := by
  unfold zstB at h
  split at h
  · rename_i q hq
    simp only [Bool.and_eq_true, decide_eq_true_eq] at h
    obtain ⟨h1, h2⟩ := h
    have hl : zlen a = q.2.length := by
      unfold zlen
      rw [hq]
    have key : ∀ i, i < q.2.length → q.2[i]? = some (some (zel a i)) ∧ zState (zel a i) := by
      intro i hi
      have h3 := List.all_eq_true.mp h2 i (List.mem_range.mpr hi)
      simp only [Bool.and_eq_true, decide_eq_true_eq, List.all_cons, List.all_nil, and_true] at h3
      obtain ⟨⟨h4, h5⟩, h6⟩ := h3
      exact ⟨h4, h5, h6.1, h6.2.1, h6.2.2.1, h6.2.2.2.1, h6.2.2.2.2.1, h6.2.2.2.2.2⟩
    refine ⟨⟨q.2, ?_, fun i hi => (key i hi).1⟩, fun i hi => (key _ ?_).2⟩
    · rw [hq, ← h1]
    · rw [← hl]
      exact zin_lt hi
  · cases h
theorem sts48 : zSts 48 := zstB_ok (by decide +kernel)
theorem sts49 : zSts 49 := zstB_ok (by decide +kernel)
def zlnB (a : Nat) : Bool := match zsh a with
  | some q => decide (q.1 = 23) && (List.range q.2.length).all (fun i => decide (q.2[i]? = some (some (zel a i))) && decide (zsh (zel a i) = some (6, [some (zel a i + 1), none])) && (decide (zsh (zel a i + 1) = some (2, [some (zel a i + 1 + 1)])) && decide (zsh (zel a i + 1 + 1) = some (20, List.replicate (zlen (zel a i + 1 + 1)) none))))
  | none => false
theorem zlnB_ok {a : Nat} (h : zlnB a = true) : zRef 23 a ∧ ∀ i : Int32, zin i (zlen a) → zLine (zel a i.toNatClampNeg) := by
  unfold zlnB at h
  split at h
  · rename_i q hq
    simp only [Bool.and_eq_true, decide_eq_true_eq] at h
    obtain ⟨h1, h2⟩ := h
    have hl : zlen a = q.2.length := by
      unfold zlen
      rw [hq]
    have key : ∀ i, i < q.2.length → q.2[i]? = some (some (zel a i)) ∧ zLine (zel a i) := by
      intro i hi
      have h3 := List.all_eq_true.mp h2 i (List.mem_range.mpr hi)
      simp only [Bool.and_eq_true, decide_eq_true_eq] at h3
      obtain ⟨⟨h4, h5⟩, h6⟩ := h3
      exact ⟨h4, h5, h6.1, h6.2⟩
    refine ⟨⟨q.2, ?_, fun i hi => (key i hi).1⟩, fun i hi => (key _ ?_).2⟩
    · rw [hq, ← h1]
    · rw [← hl]
      exact zin_lt hi
  · cases h
theorem ref187 : zRef 23 187 := (zlnB_ok (by decide +kernel)).1
theorem ref187_el (i : Int32) (h : zin i 6) : zLine (zel 187 i.toNatClampNeg) := (zlnB_ok (a := 187) (by decide +kernel)).2 i h
theorem zArr_of {a : Nat} (h : zsh a = some (20, List.replicate (zlen a) none)) : zArr a := h
theorem zBoo_of {a : Nat} (h : zsh a = some (21, List.replicate (zlen a) none)) : zBoo a := h
section ZR2
variable {L : Nat} {xs : Nat → Int32} {d : Nat} {M : zPM} {pc : Nat} {ls : zL} {st : List Value} {g g' : zS} {r : Option Value}
theorem y_alenS {a : Nat} (hd : decode M.2.1 pc = .ok (.arraylength, 1)) (ha : zRef 22 a) (kk : zG2 L xs d M (pc + 1) ls (.int (nI (zlen a)) :: st) g r g') : zG2 L xs d M pc ls (.ref a :: st) g r g' := by
  obtain ⟨sl, h1, -⟩ := ha
  refine y_alen hd h1 (by decide) (by decide) ?_ kk
  unfold zlen
  rw [h1]
  rfl
theorem y_invVi {ix j o ci : Nat} {As rest : List Value} {N : zPM} {x : Int32} {sl : List (Option Nat)} {g2 : zS} (he : zE2 L xs d j (.ref o :: As) g (some (.int x)) g2) (hd : decode M.2.1 pc = .ok (.invokevirtual ix, 3)) (hm : zmx M.2.2.2.2 ix = some (j, 1)) (hN : zpms[j]? = some N) (hna : zna[j]? = some As.length) (hst : st = As.reverse ++ .ref o :: rest) (hcat : zcat rest ≤ 8) (hs : zsh o = some (ci, sl)) (hci : ci < 11) (hc : zcn ci = N.1.cls) (kk : zG2 L xs d M (pc + 3) ls (.int x :: rest) g2 r g') : zG2 L xs d M pc ls st g r g' := y_invV he hd hm hN hna hst hcat hs hci hc kk
theorem y_invVv {ix j o ci : Nat} {As rest : List Value} {N : zPM} {sl : List (Option Nat)} {g2 : zS} (he : zE2 L xs d j (.ref o :: As) g none g2) (hd : decode M.2.1 pc = .ok (.invokevirtual ix, 3)) (hm : zmx M.2.2.2.2 ix = some (j, 1)) (hN : zpms[j]? = some N) (hna : zna[j]? = some As.length) (hst : st = As.reverse ++ .ref o :: rest) (hcat : zcat rest ≤ 8) (hs : zsh o = some (ci, sl)) (hci : ci < 11) (hc : zcn ci = N.1.cls) (kk : zG2 L xs d M (pc + 3) ls rest g2 r g') : zG2 L xs d M pc ls st g r g' := y_invV he hd hm hN hna hst hcat hs hci hc kk
theorem y_invVz {ix j o ci : Nat} {As rest : List Value} {N : zPM} {z : Option Nat} {sl : List (Option Nat)} {g2 : zS} (he : zE2 L xs d j (.ref o :: As) g (some (zov z)) g2) (hd : decode M.2.1 pc = .ok (.invokevirtual ix, 3)) (hm : zmx M.2.2.2.2 ix = some (j, 1)) (hN : zpms[j]? = some N) (hna : zna[j]? = some As.length) (hst : st = As.reverse ++ .ref o :: rest) (hcat : zcat rest ≤ 8) (hs : zsh o = some (ci, sl)) (hci : ci < 11) (hc : zcn ci = N.1.cls) (kk : zG2 L xs d M (pc + 3) ls (zov z :: rest) g2 r g') : zG2 L xs d M pc ls st g r g' := y_invV he hd hm hN hna hst hcat hs hci hc kk
theorem y_invVn {ix j o ci : Nat} {As rest : List Value} {N : zPM} {q : Nat} {sl : List (Option Nat)} {g2 : zS} (he : zE2 L xs d j (.ref o :: As) g (some (.ref q)) g2) (hd : decode M.2.1 pc = .ok (.invokevirtual ix, 3)) (hm : zmx M.2.2.2.2 ix = some (j, 1)) (hN : zpms[j]? = some N) (hna : zna[j]? = some As.length) (hst : st = As.reverse ++ .ref o :: rest) (hcat : zcat rest ≤ 8) (hs : zsh o = some (ci, sl)) (hci : ci < 11) (hc : zcn ci = N.1.cls) (kk : zG2 L xs d M (pc + 3) ls (.ref q :: rest) g2 r g') : zG2 L xs d M pc ls st g r g' := y_invV he hd hm hN hna hst hcat hs hci hc kk
theorem y_invSi {ix j : Nat} {As rest : List Value} {N : zPM} {x : Int32} {g2 : zS} (he : zE2 L xs d j As g (some (.int x)) g2) (hd : decode M.2.1 pc = .ok (.invokestatic ix, 3)) (hm : zmx M.2.2.2.2 ix = some (j, 0)) (hN : zpms[j]? = some N) (hna : zna[j]? = some As.length) (hst : st = As.reverse ++ rest) (hcat : zcat rest ≤ 8) (kk : zG2 L xs d M (pc + 3) ls (.int x :: rest) g2 r g') : zG2 L xs d M pc ls st g r g' := y_invS he hd hm hN hna hst hcat kk
theorem y_invSz {ix j : Nat} {As rest : List Value} {N : zPM} {z : Option Nat} {g2 : zS} (he : zE2 L xs d j As g (some (zov z)) g2) (hd : decode M.2.1 pc = .ok (.invokestatic ix, 3)) (hm : zmx M.2.2.2.2 ix = some (j, 0)) (hN : zpms[j]? = some N) (hna : zna[j]? = some As.length) (hst : st = As.reverse ++ rest) (hcat : zcat rest ≤ 8) (kk : zG2 L xs d M (pc + 3) ls (zov z :: rest) g2 r g') : zG2 L xs d M pc ls st g r g' := y_invS he hd hm hN hna hst hcat kk
theorem y_invTi {ix j : Nat} {As rest : List Value} {N : zPM} {x : Int32} {g2 : zS} (he : zE2 L xs d j (.ref zSTR :: As) g (some (.int x)) g2) (hd : decode M.2.1 pc = .ok (.invokevirtual ix, 3)) (hm : zmx M.2.2.2.2 ix = some (j, 1)) (hN : zpms[j]? = some N) (hna : zna[j]? = some As.length) (hst : st = As.reverse ++ .ref zSTR :: rest) (hcat : zcat rest ≤ 8) (hc : N.1.cls = "java/lang/String") (kk : zG2 L xs d M (pc + 3) ls (.int x :: rest) g2 r g') : zG2 L xs d M pc ls st g r g' := y_invT he hd hm hN hna hst hcat hc kk
theorem zin_nI {i : Int32} {n : Nat} (h : zin i n) (hn : n < 2 ^ 31) : i = nI i.toNatClampNeg := by
  obtain ⟨j, hj, rfl⟩ := vp_in_of (zin_vp h) hn
  rw [nI_clamp (by omega)]
theorem zstrlen (d : Nat) {g : zS} : zE2 L xs (d + 5) zjLen [.ref zSTR] g (some (.int 97)) g := Or.inl ⟨rfl, by omega, rfl, rfl, rfl⟩
theorem zstrch (d : Nat) {g : zS} {i : Int32} (h : zin i 97) : zE2 L xs (d + 5) zjCh [.ref zSTR, .int i] g (some (.int (zbyt i.toNatClampNeg))) g := Or.inr (Or.inl ⟨rfl, by omega, i.toNatClampNeg, zin_lt h, by rw [← zin_nI h (by decide)], rfl, rfl⟩)
end ZR2
