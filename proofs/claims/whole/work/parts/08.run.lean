theorem zretI {L : Nat} {xs : Nat → Int32} {M : zPM} {i : Instr} {len pc : Nat} {ls : zL} {st : List Value} {w : zW} {x : Option Value} (h : zStep L xs M i len pc ls st w (.inr (.inl x))) : i = .ireturn ∨ i = .areturn ∨ i = .return_ := by
  cases i
  case aconst_null => exact (zgo_no h.2).elim
  case aload_n k => obtain ⟨-, v, -, -, h⟩ := h; exact (zgo_no h).elim
  case aload k => obtain ⟨-, v, -, -, h⟩ := h; exact (zgo_no h).elim
  case iload_n k => obtain ⟨-, v, -, h⟩ := h; exact (zgo_no h).elim
  case iload k => obtain ⟨-, v, -, h⟩ := h; exact (zgo_no h).elim
  case lload_n k => obtain ⟨-, v, -, h⟩ := h; exact (zgo_no h).elim
  case lload k => obtain ⟨-, v, -, h⟩ := h; exact (zgo_no h).elim
  case iconst n => exact (zgo_no h.2).elim
  case bipush n => exact (zgo_no h.2).elim
  case sipush n => exact (zgo_no h.2).elim
  case lconst n => exact (zgo_no h.2).elim
  case ldc ix => rcases h with ⟨-, ⟨v, -, h⟩ | ⟨-, -, h⟩⟩ <;> exact (zgo_no h).elim
  case ldc_w ix => obtain ⟨-, v, -, h⟩ := h; exact (zgo_no h).elim
  case ldc2_w ix => obtain ⟨-, v, -, h⟩ := h; exact (zgo_no h).elim
  case istore_n k => obtain ⟨-, x, rest, -, -, -, h⟩ := h; exact (zgo_no h).elim
  case istore k => obtain ⟨-, x, rest, -, -, -, h⟩ := h; exact (zgo_no h).elim
  case astore_n k => obtain ⟨-, x, rest, -, -, -, -, h⟩ := h; exact (zgo_no h).elim
  case astore k => obtain ⟨-, x, rest, -, -, -, -, h⟩ := h; exact (zgo_no h).elim
  case iinc k n => obtain ⟨-, x, -, -, h⟩ := h; exact (zgo_no h).elim
  case iadd => obtain ⟨-, x, y, rest, -, h⟩ := h; exact (zgo_no h).elim
  case isub => obtain ⟨-, x, y, rest, -, h⟩ := h; exact (zgo_no h).elim
  case imul => obtain ⟨-, x, y, rest, -, h⟩ := h; exact (zgo_no h).elim
  case idiv => obtain ⟨-, x, y, rest, -, -, h⟩ := h; exact (zgo_no h).elim
  case irem => obtain ⟨-, x, y, rest, -, -, h⟩ := h; exact (zgo_no h).elim
  case iand => obtain ⟨-, x, y, rest, -, h⟩ := h; exact (zgo_no h).elim
  case ior => obtain ⟨-, x, y, rest, -, h⟩ := h; exact (zgo_no h).elim
  case ixor => obtain ⟨-, x, y, rest, -, h⟩ := h; exact (zgo_no h).elim
  case ishl => obtain ⟨-, x, y, rest, -, h⟩ := h; exact (zgo_no h).elim
  case ishr => obtain ⟨-, x, y, rest, -, h⟩ := h; exact (zgo_no h).elim
  case iushr => obtain ⟨-, x, y, rest, -, h⟩ := h; exact (zgo_no h).elim
  case ineg => obtain ⟨-, x, rest, -, h⟩ := h; exact (zgo_no h).elim
  case i2l => obtain ⟨-, x, rest, -, h⟩ := h; exact (zgo_no h).elim
  case lcmp => obtain ⟨-, x, y, rest, -, h⟩ := h; exact (zgo_no h).elim
  case dup => obtain ⟨-, v, rest, -, -, h⟩ := h; exact (zgo_no h).elim
  case dup2 => obtain ⟨-, v, u, rest, -, -, -, h⟩ := h; exact (zgo_no h).elim
  case pop => obtain ⟨-, v, rest, -, -, h⟩ := h; exact (zgo_no h).elim
  case ifCond cd off => obtain ⟨-, x, rest, tgt, -, -, ⟨-, h⟩ | ⟨-, h⟩⟩ := h <;> exact (zgo_no h).elim
  case if_icmp cd off => obtain ⟨-, x, y, rest, tgt, -, -, ⟨-, h⟩ | ⟨-, h⟩⟩ := h <;> exact (zgo_no h).elim
  case ifnull off => obtain ⟨-, ⟨rest, tgt, -, -, h⟩ | ⟨a, rest, -, h⟩⟩ := h <;> exact (zgo_no h).elim
  case ifnonnull off => obtain ⟨-, ⟨a, rest, tgt, -, -, h⟩ | ⟨rest, -, h⟩⟩ := h <;> exact (zgo_no h).elim
  case goto off => obtain ⟨-, tgt, -, h⟩ := h; exact (zgo_no h).elim
  case tableswitch d lo hi offs => obtain ⟨x, rest, tgt, -, -, h⟩ := h; exact (zgo_no h).elim
  case getfield ix => obtain ⟨-, o, rest, ci, k, fs, v, -, -, -, -, h⟩ := h; exact (zgo_no h).elim
  case putfield ix => obtain ⟨-, v, o, rest, ci, k, fs, -, -, ho, -, -, -, h⟩ := h; exact (zgo_no h).elim
  case iaload => obtain ⟨-, j, o, rest, -, ⟨sl, x, -, -, -, h⟩ | ⟨-, -, h⟩⟩ := h <;> exact (zgo_no h).elim
  case iastore => obtain ⟨-, x, j, o, rest, sl, -, ho, -, h⟩ := h; exact (zgo_no h).elim
  case baload => obtain ⟨-, j, o, rest, sl, x, -, -, -, -, h⟩ := h; exact (zgo_no h).elim
  case bastore => obtain ⟨-, x, j, o, rest, sl, -, -, ho, -, h⟩ := h; exact (zgo_no h).elim
  case aaload => obtain ⟨-, j, o, rest, t, sl, v, -, -, -, -, -, -, h⟩ := h; exact (zgo_no h).elim
  case aastore => obtain ⟨-, q, j, o, rest, t, sl, ci, fs, -, -, -, -, ho, -, h⟩ := h; exact (zgo_no h).elim
  case arraylength => obtain ⟨-, o, rest, -, ⟨t, sl, -, -, -, h⟩ | ⟨-, h⟩⟩ := h <;> exact (zgo_no h).elim
  case new ix => obtain ⟨-, ci, -, hw, h⟩ := h; exact (zgo_no h).elim
  case newarray a => obtain ⟨-, n, rest, t, -, -, -, -, hw, h⟩ := h; exact (zgo_no h).elim
  case anewarray ix => obtain ⟨-, n, rest, ci, -, -, -, -, -, hw, h⟩ := h; exact (zgo_no h).elim
  case invokevirtual ix => obtain ⟨-, j, As, o, rest, N, -, -, -, -, -, -, h⟩ := h; cases h
  case invokespecial ix =>
    rcases h with ⟨-, ⟨o, rest, -, -, -, h⟩ | ⟨j, As, o, rest, N, -, -, -, -, -, -, -, h⟩⟩
    · exact (zgo_no h).elim
    · cases h
  case invokestatic ix =>
    rcases h with ⟨-, ⟨x, y, rest, -, -, -, h⟩ | ⟨x, y, rest, -, -, -, h⟩ | ⟨j, As, rest, N, -, -, -, -, -, h⟩⟩
    · exact (zgo_no h).elim
    · exact (zgo_no h).elim
    · cases h
  case ireturn => exact Or.inl rfl
  case areturn => exact Or.inr (Or.inl rfl)
  case return_ => exact Or.inr (Or.inr rfl)
  all_goals exact False.elim h
theorem zrun_mono {L : Nat} {xs : Nat → Int32} {E : Nat → List Value → zW → Option Value → zW → Prop} {M : zPM} (hE : ∀ j As w r w2, E j As w r w2 → w.length ≤ w2.length ∧ zsz w ≤ zsz w2 ∧ (w.length ≤ zlim → w2.length ≤ zlim)) {r : Option Value} {w' : zW} : ∀ (n pc : Nat) (ls : zL) (st : List Value) (w : zW), zRun L xs E M n pc ls st w r w' → w.length ≤ w'.length ∧ zsz w ≤ zsz w' ∧ (w.length ≤ zlim → w'.length ≤ zlim) := by
  intro n
  induction n with
  | zero => intro pc ls st w h; exact False.elim h
  | succ n ih =>
    intro pc ls st w h
    obtain ⟨i, len, sr, hd, hs, hm⟩ := h
    match sr, hs, hm with
    | .inl (pc2, ls2, st2, w2), hs, hm =>
      obtain ⟨a1, a2, a3, -⟩ := zstep_mono hs
      obtain ⟨b1, b2, b3⟩ := ih _ _ _ _ hm
      exact ⟨Nat.le_trans a1 b1, Nat.le_trans a2 b2, fun h => b3 (a3 h)⟩
    | .inr (.inl v), hs, hm =>
      obtain ⟨-, rfl⟩ := hm
      exact ⟨Nat.le_refl _, Nat.le_refl _, id⟩
    | .inr (.inr (j, As, rest)), hs, hm =>
      obtain ⟨v, w2, he, hr⟩ := hm
      obtain ⟨a1, a2, a3⟩ := hE _ _ _ _ _ he
      obtain ⟨b1, b2, b3⟩ := ih _ _ _ _ hr
      exact ⟨Nat.le_trans a1 b1, Nat.le_trans a2 b2, fun h => b3 (a3 h)⟩
section ZRUN
variable {p : Program} {l : Launch} {e : Env} {R : Room} {s : State} {m : MethodId} {args : Array Value} {below : List Frame} {meth : Method} {c : Code} {Q : State → Prop}
variable {G : zG} {M : zPM}
theorem zrun_sound {d n0 s0 : Nat} (IH : zMet G l d) (C : zC G M p s m args meth c) (hfr : d + 1 ≤ R.frames) (hlo : 35 * d + 35 ≤ R.locals) {r : Option Value} {w' : zW}
    (hI : ∀ (H2 : Heap) (locs2 : List Loc) (pc2 : Nat) (real2 : Array Slot) (x : Int32), va_P (zgD G) zcl (ztoW G w') H2 → va_S (zA G) s.heap H2 locs2 → H2.size = zgB G + w'.length → r = some (.int x) → (M.2.2.2.1 = some .int ∨ (M.2.2.2.1 = some .boolean ∧ (x = 0 ∨ x = 1))) → decode M.2.1 pc2 = .ok (.ireturn, 1) → W p l e R s m args below meth c H2 locs2 (w'.length - n0) (zsz w' - s0) Q (F0 m pc2 real2 [.int x]))
    (hA : ∀ (H2 : Heap) (locs2 : List Loc) (pc2 : Nat) (real2 : Array Slot) (v : Value) (nm : String), va_P (zgD G) zcl (ztoW G w') H2 → va_S (zA G) s.heap H2 locs2 → H2.size = zgB G + w'.length → r = some v → zrv v = true → M.2.2.2.1 = some (.object nm) → decode M.2.1 pc2 = .ok (.areturn, 1) → W p l e R s m args below meth c H2 locs2 (w'.length - n0) (zsz w' - s0) Q (F0 m pc2 real2 [ztr G v]))
    (hV : ∀ (H2 : Heap) (locs2 : List Loc) (pc2 : Nat) (real2 : Array Slot), va_P (zgD G) zcl (ztoW G w') H2 → va_S (zA G) s.heap H2 locs2 → H2.size = zgB G + w'.length → r = none → M.2.2.2.1 = none → decode M.2.1 pc2 = .ok (.return_, 1) → W p l e R s m args below meth c H2 locs2 (w'.length - n0) (zsz w' - s0) Q (F0 m pc2 real2 []))
    (hcel : w'.length - n0 ≤ R.cells) (hslo : zsz w' - s0 ≤ R.slots) :
    ∀ (n pc : Nat) (ls : zL) (st : List Value) (w : zW), zRun (zgL G) (zgx G) (zEv (zgL G) (zgx G) d) M n pc ls st w r w' → n0 ≤ w.length → s0 ≤ zsz w → w.length ≤ zlim →
      ∀ (H : Heap) (locs : List Loc) (real : Array Slot), va_P (zgD G) zcl (ztoW G w) H → va_S (zA G) s.heap H locs → H.size = zgB G + w.length → zls G M.2.2.1 ls real → W p l e R s m args below meth c H locs (w.length - n0) (zsz w - s0) Q (F0 m pc real (st.map (ztr G))) := by
  have hE : ∀ j As w r w2, zEv (zgL G) (zgx G) d j As w r w2 → w.length ≤ w2.length ∧ zsz w ≤ zsz w2 ∧ (w.length ≤ zlim → w2.length ≤ zlim) := fun j As w r w2 h => (IH j As w r w2 h).1
  intro n
  induction n with
  | zero => intro pc ls st w h; exact False.elim h
  | succ n ih =>
    intro pc ls st w h hn hz hlim H locs real hP hS hH hl
    obtain ⟨i, len, sr, hd, hs, hm⟩ := h
    match sr, hs, hm with
    | .inl (pc2, ls2, st2, w2), hs, hm =>
      obtain ⟨a1, a2, a3, -⟩ := zstep_mono hs
      obtain ⟨b1, b2, b3⟩ := zrun_mono hE _ _ _ _ _ hm
      exact zgo_sound C (by omega) (by omega) hd hs hn hz (by omega) (by omega) hlim hP hS hH hl (fun H2 locs2 real2 hP2 hS2 hH2 hl2 => ih _ _ _ _ hm (by omega) (by omega) (a3 hlim) H2 locs2 real2 hP2 hS2 hH2 hl2)
    | .inr (.inl v), hs, hm =>
      obtain ⟨rfl, rfl⟩ := hm
      rcases zretI hs with rfl | rfl | rfl
      · obtain ⟨rfl, x, rfl, hret, h⟩ := hs
        simp only [Sum.inr.injEq, Sum.inl.injEq] at h
        exact hI H locs pc real x hP hS hH h hret hd
      · obtain ⟨rfl, v, nm, rfl, hv, hret, h⟩ := hs
        simp only [Sum.inr.injEq, Sum.inl.injEq] at h
        exact hA H locs pc real v nm hP hS hH h hv hret hd
      · obtain ⟨rfl, rfl, hret, h⟩ := hs
        simp only [Sum.inr.injEq, Sum.inl.injEq] at h
        exact hV H locs pc real hP hS hH h hret hd
    | .inr (.inr (j, As, rest)), hs, hm =>
      obtain ⟨v, w2, he, hr⟩ := hm
      obtain ⟨a1, a2, a3⟩ := hE _ _ _ _ _ he
      obtain ⟨b1, b2, b3⟩ := zrun_mono hE _ _ _ _ _ hr
      exact zinv_sound IH C hfr hlo hd hs he hn hz (by omega) (by omega) hlim hP hS hH hl (fun H2 locs2 hP2 hS2 hH2 => ih _ _ _ _ hr (by omega) (by omega) (a3 hlim) H2 locs2 real hP2 hS2 hH2 hl)
end ZRUN
-- ===== the start: locals =====
theorem zargs_mem {G : zG} : ∀ (As : List Value) (k i : Nat) (v : Value), (zargs As)[i]? = some (some v) → (k + i, ztr G v) ∈ lv_args k (As.map (ztr G))
  | [], k, i, v, h => by simp [zargs] at h
  | a :: As, k, i, v, h => by
    unfold zargs at h
    rw [List.map_cons]
    unfold lv_args
    rw [ztr_cat]
    by_cases hc : a.category = 2
    · rw [if_pos hc] at h ⊢
      match i, h with
      | 0, h => cases h; exact List.mem_cons_self
      | 1, h => simp at h
      | i + 2, h =>
        have h2 : (zargs As)[i]? = some (some v) := by simpa using h
        have := zargs_mem (G := G) As (k + 2) i v h2
        rw [show k + (i + 2) = k + 2 + i by omega]
        exact List.mem_cons_of_mem _ this
    · rw [if_neg hc] at h ⊢
      match i, h with
      | 0, h => cases h; exact List.mem_cons_self
      | i + 1, h =>
        have h2 : (zargs As)[i]? = some (some v) := by simpa using h
        have := zargs_mem (G := G) As (k + 1) i v h2
        rw [show k + (i + 1) = k + 1 + i by omega]
        exact List.mem_cons_of_mem _ this
theorem zargs_len {G : zG} : ∀ (As : List Value), (lg_sl (As.map (ztr G))).length = (zargs As).length
  | [] => rfl
  | a :: As => by
    have ih := zargs_len (G := G) As
    unfold lg_sl at ih ⊢
    rw [List.map_cons, List.flatMap_cons, List.length_append, ih, ztr_cat]
    have ez : zargs (a :: As) = if a.category = 2 then some a :: none :: zargs As else some a :: zargs As := rfl
    rw [ez]
    by_cases hc : a.category = 2
    · rw [if_pos hc, if_pos hc]; simp only [List.length_cons, List.length_nil]; omega
    · rw [if_neg hc, if_neg hc]; simp only [List.length_cons, List.length_nil]; omega
theorem zini_ls {G : zG} {As : List Value} {maxL : Nat} {real : Array Slot} (hA : (zargs As).length ≤ maxL) (h : lv_has real maxL (lv_args 0 (As.map (ztr G)))) : zls G maxL (zini maxL As) real := by
  refine ⟨by unfold zini; rw [List.length_append, List.length_replicate]; omega, h.1, h.2.1, fun i v hi => ?_⟩
  unfold zini at hi
  by_cases hl : i < (zargs As).length
  · rw [List.getElem?_append_left hl] at hi
    have h1 := zargs_mem (G := G) As 0 i v hi
    rw [Nat.zero_add] at h1
    exact h.2.2 _ h1
  · rw [List.getElem?_append_right (by omega), List.getElem?_replicate] at hi
    split at hi <;> cases hi
/-- what the JDK's two methods must keep -/
def zJdk (G : zG) (l : Launch) (d : Nat) : Prop := ∀ N, (zpms[zjLen]? = some N → ∀ w, Met l N.1 (zws N) (zrm d 0 0) (zPc G [.ref zSTR] w) (zQc G (some (.int 97)) w) 0 0 (zA G)) ∧ (zpms[zjCh]? = some N → ∀ w i, i < 97 → Met l N.1 (zws N) (zrm d 0 0) (zPc G [.ref zSTR, .int (nI i)] w) (zQc G (some (.int (zbyt i))) w) 0 0 (zA G))
theorem zMet_succ {G : zG} {l : Launch} {d : Nat} (IH : zMet G l d) (hJ : 4 ≤ d → zJdk G l (d + 1)) : zMet G l (d + 1) := by
  intro j As w r w2 hev
  rcases hev with ⟨rfl, h4, rfl, rfl, rfl⟩ | ⟨rfl, h4, i, hi, rfl, rfl, rfl⟩ | ⟨M, n, hM, ho, hargs, hrun⟩
  · refine ⟨⟨Nat.le_refl _, Nat.le_refl _, id⟩, fun N hN => ?_⟩
    rw [Nat.sub_self, Nat.sub_self]
    exact (hJ h4 N).1 hN w2
  · refine ⟨⟨Nat.le_refl _, Nat.le_refl _, id⟩, fun N hN => ?_⟩
    rw [Nat.sub_self, Nat.sub_self]
    exact (hJ h4 N).2 hN w2 i hi
  · have hmono := zrun_mono (fun j As w r w2 h => (IH j As w r w2 h).1) _ _ _ _ _ hrun
    refine ⟨hmono, fun N hN => ?_⟩
    cases hN.symm.trans hM
    obtain ⟨na, -, g1, -, -, g4, -, -, g7⟩ := zmeth hM (Or.inl ho)
    refine Met.ofW (cc := M.2.1) (maxL := M.2.2.1) (ret := M.2.2.2.1) g4 rfl ?_
    intro p e s m args below meth c s₁ B hml hv
    obtain ⟨rfl, hSt, hP, hH, hlim⟩ := hv
    have hx := B.exec
    have hb := B.bytes
    have hr := B.returns
    have hts0 := atoms_spec (ws := zws M) B.pre
    have hown := findClass_of_methodNamed B.named
    have hlocks := B.notSynchronized
    have hname := (name_of_methodNamed B.named B.method).1
    have hcn := g7 ho
    have C : zC G M p s m (As.map (ztr G)).toArray meth c := ⟨hx, hb, hml, fun w hw => hts0 w (List.mem_cons_of_mem _ hw), by rw [hcn]; exact hown, fun h => hname.trans h, hcn, hSt, by omega⟩
    have hl0 := lv_entry (As.map (ztr G)) (n := M.2.2.1) (by rw [zargs_len]; exact hargs)
    have hl := zini_ls hargs hl0
    rw [lg_entry_eq]
    have key := zrun_sound (R := (headSpec (zws M) (zrm (d + 1) (w2.length - w.length) (zsz w2 - zsz w))).room) (e := e) (below := below) (Q := MQ below (zQc G r w2) (As.map (ztr G)).toArray s (w2.length - w.length) (zsz w2 - zsz w) (zA G)) (n0 := w.length) (s0 := zsz w) IH C (Nat.le_refl _) (by show 35 * d + 35 ≤ 35 * (d + 1); omega) (r := r) (w' := w2)
      (fun H2 locs2 pc2 real2 x hP2 hS2 hH2 hr2 hret hdg => ?_) (fun H2 locs2 pc2 real2 v nm hP2 hS2 hH2 hr2 hv hret hdg => ?_) (fun H2 locs2 pc2 real2 hP2 hS2 hH2 hr2 hret hdg => ?_) (Nat.le_refl _) (Nat.le_refl _) n 0 _ [] w hrun (Nat.le_refl _) (Nat.le_refl _) hlim s.heap [] _ hP va_S.rf hH hl
    · rw [Nat.sub_self, Nat.sub_self] at key
      exact key
    · subst hr2
      have hq : ∀ t : State, t.heap = H2 → s.WarmedH t.vm → zQc G (some (.int x)) w2 (As.map (ztr G)).toArray s (.returned (some (.int x))) t := fun t ht hW => ⟨⟨rfl, by rw [ht]; exact hP2, by rw [ht]; exact hH2⟩, hS2.F ht⟩
      rcases hret with hret | ⟨hret, hx01⟩
      · exact W.zret (ty := .int) hx hb (hr.trans hret) rfl hq hS2.2.2 hdg hlocks
      · exact W.zret (ty := .boolean) hx hb (hr.trans hret) (by rcases hx01 with rfl | rfl <;> decide) hq hS2.2.2 hdg hlocks
    · subst hr2
      have hq : ∀ t : State, t.heap = H2 → s.WarmedH t.vm → zQc G (some v) w2 (As.map (ztr G)).toArray s (.returned (some (ztr G v))) t := fun t ht hW => ⟨⟨rfl, by rw [ht]; exact hP2, by rw [ht]; exact hH2⟩, hS2.F ht⟩
      exact W.aret hx hb (hr.trans hret) (Or.inl ⟨nm, rfl⟩) (by rcases zrv_cases hv with ⟨a, rfl⟩ | rfl; exact Or.inr ⟨_, rfl⟩; exact Or.inl rfl) hq hS2.2.2 hdg hlocks
    · subst hr2
      have hq : ∀ t : State, t.heap = H2 → s.WarmedH t.vm → zQc G none w2 (As.map (ztr G)).toArray s (.returned none) t := fun t ht hW => ⟨⟨rfl, by rw [ht]; exact hP2, by rw [ht]; exact hH2⟩, hS2.F ht⟩
      exact W.vret hx hb (hr.trans hret) hq hS2.2.2 hdg hlocks
