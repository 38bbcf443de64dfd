-- ===== calls =====
def zws (N : zPM) : List Cond := zmk N :: zTB
def zrm (d mc ms : Nat) : Room := { frames := d, cells := mc, slots := ms, locals := 35 * d }
def zPc (G : zG) (As : List Value) (w : zW) : Array Value → State → Prop := va_Pc (As.map (ztr G)) (fun U => zWd G w U U.heap)
def zQc (G : zG) (r : Option Value) (w : zW) : Array Value → State → Outcome → State → Prop := fun _ st oc t => (oc = .returned (r.map (ztr G)) ∧ va_P (zgD G) zcl (ztoW G w) t.heap ∧ t.heap.size = zgB G + w.length) ∧ va_F (zA G) st t
def zMet (G : zG) (l : Launch) (d : Nat) : Prop := ∀ (j : Nat) (As : List Value) (w : zW) (r : Option Value) (w2 : zW), zEv (zgL G) (zgx G) d j As w r w2 → (w.length ≤ w2.length ∧ zsz w ≤ zsz w2 ∧ (w.length ≤ zlim → w2.length ≤ zlim)) ∧
  ∀ N, zpms[j]? = some N → Met l N.1 (zws N) (zrm d (w2.length - w.length) (zsz w2 - zsz w)) (zPc G As w) (zQc G r w2) (w2.length - w.length) (zsz w2 - zsz w) (zA G)
theorem zNW_same {U V : State} (hv : U.vm = V.vm) {w : Cond} (hw : w ∈ zNW) (h : va_Nw w U) : va_Nw w V := by
  have h1 := (List.mem_filter.mp hw).2
  cases w <;> first | exact va_Nw.same rfl hv h | (simp [znest] at h1)
theorem zSt_same {G : zG} {U V : State} {H : Heap} (hv : U.vm = V.vm) (h : zSt G U H) : zSt G V H := by
  obtain ⟨hX, hb, ⟨hs1, hs2, hs3, hs4⟩, hK, hN, hA1, hA2⟩ := h
  have hA : U.vm.Alike V.vm := by rw [hv]; exact Vm.Alike.refl _
  exact ⟨hX.moved hA, hb, ⟨hs1.moved hA, hs2.same hv.symm, hs3.moved hA, hs4.moved hA⟩, hK.moved hA, fun w hw => zNW_same hv hw (hN w hw), hA1.moved hA, hA2.moved hA⟩
theorem zPc_blind {G : zG} {As : List Value} {w : zW} : FrameBlind (zPc G As w) := by
  intro a U g mk h
  exact ⟨h.1, zSt_same (U := U) (V := U.calling g mk a) rfl h.2.1, h.2.2⟩
theorem zws_good {N : zPM} (h : zmk N ∈ zTB) : GoodIn zTB (zws N) := by
  intro w hw
  rcases List.mem_cons.mp hw with rfl | hw
  · exact ⟨h, good_of_word rfl⟩
  · exact ⟨hw, good_of_word (List.mem_filter.mp hw).2⟩
theorem zEv_meth {L : Nat} {xs : Nat → Int32} {d j : Nat} {As : List Value} {w : zW} {r : Option Value} {w2 : zW} (h : zEv L xs d j As w r w2) {N : zPM} (hN : zpms[j]? = some N) : N.2.2.2.2 ≠ 99 ∨ j = zjLen ∨ j = zjCh := by
  cases d with
  | zero => exact False.elim h
  | succ d =>
    rcases h with ⟨h, -⟩ | ⟨h, -⟩ | ⟨M, n, hM, ho, -⟩
    · exact Or.inr (Or.inl h)
    · exact Or.inr (Or.inr h)
    · cases hN.symm.trans hM
      exact Or.inl ho
theorem zmlY_eq {j : Nat} {N : zPM} (h : zpms[j]? = some N) : zmlY j = some N.1 ∧ j < 1000 := by
  have hl : j < 231 := (List.getElem?_eq_some_iff.mp h).1
  refine ⟨?_, by omega⟩
  unfold zmlY
  rw [if_neg (by omega), if_neg (by omega), if_neg (by omega), h]
  rfl
theorem zno {L : Nat} {xs : Nat → Int32} {M : zPM} {i : Instr} {len pc : Nat} {ls : zL} {st : List Value} {w : zW} {x : Nat × List Value × List Value} (h : zStep L xs M i len pc ls st w (.inr (.inr x))) : (∃ ix, i = .invokevirtual ix) ∨ (∃ ix, i = .invokespecial ix) ∨ (∃ ix, i = .invokestatic ix) := by
  cases i
  case aconst_null => exact (zgo_no h.2).elim
  case aload_n k => obtain ⟨-, v, -, -, h⟩ := h; exact (zgo_no h).elim
  case aload k => obtain ⟨-, v, -, -, h⟩ := h; exact (zgo_no h).elim
  case iload_n k => obtain ⟨-, v, -, h⟩ := h; exact (zgo_no h).elim
  case iload k => obtain ⟨-, v, -, h⟩ := h; exact (zgo_no h).elim
  case lload_n k => obtain ⟨-, v, -, h⟩ := h; exact (zgo_no h).elim
  case lload k => obtain ⟨-, v, -, h⟩ := h; exact (zgo_no h).elim
  case iconst n => exact (zgo_no h.2).elim
  case bipush n => exact (zgo_no h.2).elim
  case sipush n => exact (zgo_no h.2).elim
  case lconst n => exact (zgo_no h.2).elim
  case ldc ix => rcases h with ⟨-, ⟨v, -, h⟩ | ⟨-, -, h⟩⟩ <;> exact (zgo_no h).elim
  case ldc_w ix => obtain ⟨-, v, -, h⟩ := h; exact (zgo_no h).elim
  case ldc2_w ix => obtain ⟨-, v, -, h⟩ := h; exact (zgo_no h).elim
  case istore_n k => obtain ⟨-, x, rest, -, -, -, h⟩ := h; exact (zgo_no h).elim
  case istore k => obtain ⟨-, x, rest, -, -, -, h⟩ := h; exact (zgo_no h).elim
  case astore_n k => obtain ⟨-, x, rest, -, -, -, -, h⟩ := h; exact (zgo_no h).elim
  case astore k => obtain ⟨-, x, rest, -, -, -, -, h⟩ := h; exact (zgo_no h).elim
  case iinc k n => obtain ⟨-, x, -, -, h⟩ := h; exact (zgo_no h).elim
  case iadd => obtain ⟨-, x, y, rest, -, h⟩ := h; exact (zgo_no h).elim
  case isub => obtain ⟨-, x, y, rest, -, h⟩ := h; exact (zgo_no h).elim
  case imul => obtain ⟨-, x, y, rest, -, h⟩ := h; exact (zgo_no h).elim
  case idiv => obtain ⟨-, x, y, rest, -, -, h⟩ := h; exact (zgo_no h).elim
  case irem => obtain ⟨-, x, y, rest, -, -, h⟩ := h; exact (zgo_no h).elim
  case iand => obtain ⟨-, x, y, rest, -, h⟩ := h; exact (zgo_no h).elim
  case ior => obtain ⟨-, x, y, rest, -, h⟩ := h; exact (zgo_no h).elim
  case ixor => obtain ⟨-, x, y, rest, -, h⟩ := h; exact (zgo_no h).elim
  case ishl => obtain ⟨-, x, y, rest, -, h⟩ := h; exact (zgo_no h).elim
  case ishr => obtain ⟨-, x, y, rest, -, h⟩ := h; exact (zgo_no h).elim
  case iushr => obtain ⟨-, x, y, rest, -, h⟩ := h; exact (zgo_no h).elim
  case ineg => obtain ⟨-, x, rest, -, h⟩ := h; exact (zgo_no h).elim
  case i2l => obtain ⟨-, x, rest, -, h⟩ := h; exact (zgo_no h).elim
  case lcmp => obtain ⟨-, x, y, rest, -, h⟩ := h; exact (zgo_no h).elim
  case dup => obtain ⟨-, v, rest, -, -, h⟩ := h; exact (zgo_no h).elim
  case dup2 => obtain ⟨-, v, u, rest, -, -, -, h⟩ := h; exact (zgo_no h).elim
  case pop => obtain ⟨-, v, rest, -, -, h⟩ := h; exact (zgo_no h).elim
  case ifCond cd off => obtain ⟨-, x, rest, tgt, -, -, ⟨-, h⟩ | ⟨-, h⟩⟩ := h <;> exact (zgo_no h).elim
  case if_icmp cd off => obtain ⟨-, x, y, rest, tgt, -, -, ⟨-, h⟩ | ⟨-, h⟩⟩ := h <;> exact (zgo_no h).elim
  case ifnull off => obtain ⟨-, ⟨rest, tgt, -, -, h⟩ | ⟨a, rest, -, h⟩⟩ := h <;> exact (zgo_no h).elim
  case ifnonnull off => obtain ⟨-, ⟨a, rest, tgt, -, -, h⟩ | ⟨rest, -, h⟩⟩ := h <;> exact (zgo_no h).elim
  case goto off => obtain ⟨-, tgt, -, h⟩ := h; exact (zgo_no h).elim
  case tableswitch d lo hi offs => obtain ⟨x, rest, tgt, -, -, h⟩ := h; exact (zgo_no h).elim
  case getfield ix => obtain ⟨-, o, rest, ci, k, fs, v, -, -, -, -, h⟩ := h; exact (zgo_no h).elim
  case putfield ix => obtain ⟨-, v, o, rest, ci, k, fs, -, -, ho, -, -, -, h⟩ := h; exact (zgo_no h).elim
  case iaload => obtain ⟨-, j, o, rest, -, ⟨sl, x, -, -, -, h⟩ | ⟨-, -, h⟩⟩ := h <;> exact (zgo_no h).elim
  case iastore => obtain ⟨-, x, j, o, rest, sl, -, ho, -, h⟩ := h; exact (zgo_no h).elim
  case baload => obtain ⟨-, j, o, rest, sl, x, -, -, -, -, h⟩ := h; exact (zgo_no h).elim
  case bastore => obtain ⟨-, x, j, o, rest, sl, -, -, ho, -, h⟩ := h; exact (zgo_no h).elim
  case aaload => obtain ⟨-, j, o, rest, t, sl, v, -, -, -, -, -, -, h⟩ := h; exact (zgo_no h).elim
  case aastore => obtain ⟨-, q, j, o, rest, t, sl, ci, fs, -, -, -, -, ho, -, h⟩ := h; exact (zgo_no h).elim
  case arraylength => obtain ⟨-, o, rest, -, ⟨t, sl, -, -, -, h⟩ | ⟨-, h⟩⟩ := h <;> exact (zgo_no h).elim
  case new ix => obtain ⟨-, ci, -, hw, h⟩ := h; exact (zgo_no h).elim
  case newarray a => obtain ⟨-, n, rest, t, -, -, -, -, hw, h⟩ := h; exact (zgo_no h).elim
  case anewarray ix => obtain ⟨-, n, rest, ci, -, -, -, -, -, hw, h⟩ := h; exact (zgo_no h).elim
  case invokevirtual ix => exact Or.inl ⟨_, rfl⟩
  case invokespecial ix => exact Or.inr (Or.inl ⟨_, rfl⟩)
  case invokestatic ix => exact Or.inr (Or.inr ⟨_, rfl⟩)
  case ireturn => obtain ⟨-, x, -, -, h⟩ := h; cases h
  case areturn => obtain ⟨-, v, n, -, -, -, h⟩ := h; cases h
  case return_ => obtain ⟨-, -, -, h⟩ := h; cases h
  all_goals exact False.elim h
section ZCALL
variable {p : Program} {l : Launch} {e : Env} {R : Room} {s : State} {m : MethodId} {args : Array Value} {below : List Frame} {meth : Method} {c : Code} {H : Heap} {locs : List Loc} {cells slots : Nat} {Q : State → Prop}
variable {pc : Nat} {real : Array Slot} {rest st0 : List Value} {mc ms : Nat} {free : Addr → Prop} {A0 : Nat → Prop} {H0 : Heap}
theorem zcall {Qa : State → Outcome → State → Prop} (hr : va_Run p l e R s m args below meth c H locs cells slots mc ms (F0 m pc real st0) rest Qa free) (hS : va_S A0 H0 H locs) (hf : ∀ q, free q → A0 q) (hQ : ∀ st oc t, Qa st oc t → va_F A0 st t)
    (kk : ∀ (v : Option Value) (st₀ t : State) (H1 : Heap) (locs1 : List Loc), t.heap = H1 → st₀.heap = H → Qa st₀ (.returned v) t → va_S A0 H0 H1 locs1 → W p l e R s m args below meth c H1 locs1 (cells + mc) (slots + ms) Q (F0 m (pc + 3) real (v.toList ++ rest))) : W p l e R s m args below meth c H locs cells slots Q (F0 m pc real st0) := by
  intro T hT X
  obtain ⟨v, st₀, t, T', L, h0, X', hL, e1, e2, hq, st⟩ := hr T hT X
  obtain ⟨hz, hk⟩ := hQ _ _ _ hq
  rw [h0] at hz hk
  obtain ⟨t2, a1, b1⟩ := kk v st₀ t T'.heap (locs ++ L) e1.symm h0 hq
    ⟨Nat.le_trans hS.1 (by rw [e1]; exact hz), fun q h1 h2 => by rw [e1, hk q (Nat.lt_of_lt_of_le h1 hS.1) h2]; exact hS.2.1 q h1 h2, fun q hq => by
      rcases List.mem_append.mp hq with h | h
      · exact hS.2.2 q h
      · exact hf _ (hL q h)⟩ T' rfl X'
  exact ⟨t2, st t2 a1, b1⟩
end ZCALL
section ZINV
variable {p : Program} {l : Launch} {e : Env} {R : Room} {s : State} {m : MethodId} {args : Array Value} {below : List Frame} {meth : Method} {c : Code} {Q : State → Prop}
variable {G : zG} {M : zPM}
set_option maxHeartbeats 1000000 in
theorem zinv_sound {d n0 s0 : Nat} (IH : zMet G l d) (C : zC G M p s m args meth c) (hfr : d + 1 ≤ R.frames) (hlo : 35 * d + 35 ≤ R.locals)
    {i : Instr} {len pc : Nat} {ls : zL} {st : List Value} {w : zW} {j : Nat} {As rest : List Value} (hd : decode M.2.1 pc = .ok (i, len)) (h : zStep (zgL G) (zgx G) M i len pc ls st w (.inr (.inr (j, As, rest))))
    {v : Option Value} {w2 : zW} (hev : zEv (zgL G) (zgx G) d j As w v w2)
    (hn : n0 ≤ w.length) (hz : s0 ≤ zsz w) (hcel : w2.length - n0 ≤ R.cells) (hslo : zsz w2 - s0 ≤ R.slots) (hlim : w.length ≤ zlim)
    {H : Heap} {locs : List Loc} {real : Array Slot} (hP : va_P (zgD G) zcl (ztoW G w) H) (hS : va_S (zA G) s.heap H locs) (hH : H.size = zgB G + w.length) (hl : zls G M.2.2.1 ls real)
    (kk : ∀ (H2 : Heap) (locs2 : List Loc), va_P (zgD G) zcl (ztoW G w2) H2 → va_S (zA G) s.heap H2 locs2 → H2.size = zgB G + w2.length → W p l e R s m args below meth c H2 locs2 (w2.length - n0) (zsz w2 - s0) Q (F0 m (pc + len) real ((v.toList ++ rest).map (ztr G)))) :
    W p l e R s m args below meth c H locs (w.length - n0) (zsz w - s0) Q (F0 m pc real (st.map (ztr G))) := by
  obtain ⟨⟨m1, m2, m3⟩, hMet⟩ := IH j As w v w2 hev
  obtain ⟨hx, hb, hml, hts, hown, hname, hcn, hSt, hB⟩ := C
  have hmove : ∀ U : State, U.heap = H → s.WarmedH U.vm → zWd G w U U.heap := fun U hU hW => ⟨zSt_move hSt hS hU hW, by rw [hU]; exact hP, by rw [hU]; exact hH, hlim⟩
  have hNW := hSt.2.2.2.2.1
  have hK := hSt.2.2.2.1
  have hstr := hSt.2.2.1
  have hsz : real.size = M.2.2.1 := hl.2.1
  have fin : ∀ {N : zPM}, va_Run p l e R s m args below meth c H locs (w.length - n0) (zsz w - s0) (w2.length - w.length) (zsz w2 - zsz w) (F0 m pc real (st.map (ztr G))) (rest.map (ztr G)) (zQc G v w2 (As.map (ztr G)).toArray) (zA G) → len = 3 → W p l e R s m args below meth c H locs (w.length - n0) (zsz w - s0) Q (F0 m pc real (st.map (ztr G))) := by
    intro N hr h3
    subst h3
    refine zcall hr hS (fun q h => h) (fun st oc t h => h.2) (fun v' st₀ t H1 locs1 ht h0 hq hS1 => ?_)
    obtain ⟨⟨hv, hP1, hz1⟩, -⟩ := hq
    cases hv
    rw [ht] at hP1 hz1
    have k1 := kk H1 locs1 hP1 hS1 hz1
    rw [show w.length - n0 + (w2.length - w.length) = w2.length - n0 by omega, show zsz w - s0 + (zsz w2 - zsz w) = zsz w2 - s0 by omega]
    have e1 : (v.map (ztr G)).toList ++ rest.map (ztr G) = (v.toList ++ rest).map (ztr G) := by cases v <;> simp
    rw [e1]
    exact k1
  have room : (zrm d (w2.length - w.length) (zsz w2 - zsz w)).frames + 1 ≤ R.frames := hfr
  have hc : w.length - n0 + (w2.length - w.length) ≤ R.cells ∧ zsz w - s0 + (zsz w2 - zsz w) ≤ R.slots := by omega
  have hrestcat : zcat rest ≤ 8 → 2 * (F0 m pc real (st.map (ztr G))).monitorRoom + ((rest.map (ztr G)).map fun v => v.category).sum ≤ 8 := by
    intro h
    rw [zcat_tr]
    show 2 * 0 + zcat rest ≤ 8
    omega
  cases i
  case invokevirtual ix =>
    obtain ⟨h3, j', As', o, rest', N, hmx, hN, hna, hst, hcat, hrec, h⟩ := h
    simp only [Sum.inr.injEq, Prod.mk.injEq] at h
    obtain ⟨rfl, rfl, rfl⟩ := h
    subst hst
    subst h3
    obtain ⟨n, hn2, g1, g2, g3, g4, g5, g6, -⟩ := zmeth hN (zEv_meth hev hN)
    have hnn : n = As'.length := Option.some.inj (hn2.symm.trans hna)
    subst hnn
    obtain ⟨y, hy, hlk, -, a2, a3, a4, -⟩ := zmx_spec hmx
    obtain ⟨ey, hj⟩ := zmlY_eq hN
    cases hy.symm.trans ey
    have hlocs : 8 + (N.2.2.1 + 11) + (zrm d (w2.length - w.length) (zsz w2 - zsz w)).locals ≤ R.locals := by show 8 + (N.2.2.1 + 11) + 35 * d ≤ R.locals; omega
    have hrecv : ∃ cellB : Cell, H[zad G o]? = some cellB ∧ cellB.vm.isStatics = false ∧ s.vm.findClass N.1.cls = some cellB.cls := by
      rcases hrec with ⟨ci, fs, ho, hci, hcc⟩ | ⟨rfl, hcc⟩
      · obtain ⟨q, hq⟩ := zcl_get hci
        obtain ⟨e1, -⟩ := zcl_spec hq
        rw [zad_own ho hlim, ← hcc, ← e1]
        exact va_recv hK hP hq (ztoW_get ho |>.trans (by rw [zconv_obj hci]))
      · rw [hcc]
        rw [show zad G zSTR = zgs G from rfl]
        exact vk_recv (i := 0) hstr.1 (by decide) hS
    have hp : PreV s H N.1.cls (zad G o) (zPc G (.ref o :: As') w) (As'.map (ztr G)) := ⟨zPc_blind, hrecv, fun U hU hW => ⟨rfl, hmove U hU hW⟩⟩
    have hstk : (F0 m pc real ((As'.reverse ++ Value.ref o :: rest).map (ztr G))).stack = (As'.map (ztr G)).reverse ++ .ref (zad G o) :: rest.map (ztr G) := by
      show (As'.reverse ++ Value.ref o :: rest).map (ztr G) = _
      rw [List.map_append, List.map_reverse]
      rfl
    have hd2 : N.1.cls ≠ "java/lang/invoke/MethodHandle" ∧ N.1.cls ≠ "java/lang/invoke/VarHandle" ∧ (parseMethodDescriptor N.1.desc).map (fun d => d.parameters.length) = some As'.length := ⟨g2, g3, g5⟩
    refine fin (N := N) ?_ rfl
    rcases hlk with hlk | ⟨-, host, hlk⟩
    · exact va_runV ⟨hx, hb, hml, hown, hts⟩ (hMet N hN) ⟨callB_of (bytes := N.2.1) (maxL := N.2.2.1) (ret := N.2.2.2.1) (ws' := zTB) As'.length hts (zws_good (zpm_in hN)) rfl rfl rfl (hts _ (a4 hj)) (hts _ hlk) hd2 ⟨room, hlocs⟩, hts _ (a2 (by decide)), hts _ (a3 rfl)⟩ hp rfl (by rw [List.length_map]) hsz hstk (hrestcat hcat) hd hc
    · exact va_runVN ⟨hx, hb, hml, hown, hts⟩ (hMet N hN) ⟨va_cnB (bytes := N.2.1) (maxL := N.2.2.1) (ret := N.2.2.2.1) (ws' := zTB) As'.length hts (zws_good (zpm_in hN)) rfl rfl rfl (hNW _ hlk) (hts _ (a4 hj)) hd2 ⟨room, hlocs⟩, hts _ (a2 (by decide)), hts _ (a3 rfl)⟩ hp rfl (by rw [List.length_map]) hsz hstk (hrestcat hcat) hd hc
  case invokespecial ix =>
    rcases h with ⟨h3, ⟨o, rest', -, -, -, h⟩ | ⟨j', As', o, rest', N, hmx, hN, hna, hy1, hret, hst, hcat, h⟩⟩
    · exact (zgo_no h).elim
    · simp only [Sum.inr.injEq, Prod.mk.injEq] at h
      obtain ⟨rfl, rfl, rfl⟩ := h
      subst hst
      obtain ⟨n, hn2, g1, g2, g3, g4, g5, g6, -⟩ := zmeth hN (zEv_meth hev hN)
      have hnn : n = As'.length := Option.some.inj (hn2.symm.trans hna)
      subst hnn
      obtain ⟨y, hy, hlk, -, a2, -, a4, -⟩ := zmx_spec hmx
      obtain ⟨ey, hj⟩ := zmlY_eq hN
      cases hy.symm.trans ey
      subst h3
      have hlocs : 8 + (N.2.2.1 + 11) + (zrm d (w2.length - w.length) (zsz w2 - zsz w)).locals ≤ R.locals := by show 8 + (N.2.2.1 + 11) + 35 * d ≤ R.locals; omega
      have hp : PreS s H (zPc G (.ref o :: As') w) (.ref (zad G o) :: As'.map (ztr G)) := ⟨zPc_blind, fun U hU hW => ⟨rfl, hmove U hU hW⟩⟩
      have hstk : (F0 m pc real ((As'.reverse ++ Value.ref o :: rest).map (ztr G))).stack = (As'.map (ztr G)).reverse ++ .ref (zad G o) :: rest.map (ztr G) := by
        show (As'.reverse ++ Value.ref o :: rest).map (ztr G) = _
        rw [List.map_append, List.map_reverse]
        rfl
      have hd2 : N.1.cls ≠ "java/lang/invoke/MethodHandle" ∧ N.1.cls ≠ "java/lang/invoke/VarHandle" ∧ (parseMethodDescriptor N.1.desc).map (fun d => d.parameters.length) = some As'.length := ⟨g2, g3, g5⟩
      have hw0 : zws N = Cond.code N.1 N.2.1 N.2.2.1 none :: zTB := by
        unfold zws zmk
        rw [hret]
      refine fin (N := N) ?_ rfl
      rcases hlk with hlk | ⟨-, host, hlk⟩
      · exact va_runI ⟨hx, hb, hml, hown, hts⟩ (hMet N hN) ⟨callB_of (bytes := N.2.1) (maxL := N.2.2.1) (ret := none) (ws' := zTB) As'.length hts (zws_good (zpm_in hN)) hw0 rfl rfl (hts _ (a4 hj)) (hts _ hlk) hd2 ⟨room, hlocs⟩, hy1, hts _ (a2 (by decide))⟩ hp rfl (by rw [List.length_map]) hsz hstk (hrestcat hcat) hd hc
      · exact va_runIN ⟨hx, hb, hml, hown, hts⟩ (hMet N hN) ⟨va_cnB (bytes := N.2.1) (maxL := N.2.2.1) (ret := none) (ws' := zTB) As'.length hts (zws_good (zpm_in hN)) hw0 rfl rfl (hNW _ hlk) (hts _ (a4 hj)) hd2 ⟨room, hlocs⟩, hy1, hts _ (a2 (by decide))⟩ hp rfl (by rw [List.length_map]) hsz hstk (hrestcat hcat) hd hc
  case invokestatic ix =>
    rcases h with ⟨h3, ⟨x, y, rest', -, -, -, h⟩ | ⟨x, y, rest', -, -, -, h⟩ | ⟨j', As', rest', N, hmx, hN, hna, hst, hcat, h⟩⟩
    · exact (zgo_no h).elim
    · exact (zgo_no h).elim
    · simp only [Sum.inr.injEq, Prod.mk.injEq] at h
      obtain ⟨rfl, rfl, rfl⟩ := h
      subst hst
      subst h3
      obtain ⟨n, hn2, g1, g2, g3, g4, g5, g6, -⟩ := zmeth hN (zEv_meth hev hN)
      have hnn : n = As.length := Option.some.inj (hn2.symm.trans hna)
      subst hnn
      obtain ⟨y, hy, hlk, a1, -, -, a4, -⟩ := zmx_spec hmx
      obtain ⟨ey, hj⟩ := zmlY_eq hN
      cases hy.symm.trans ey
      have hlocs : 8 + (N.2.2.1 + 11) + (zrm d (w2.length - w.length) (zsz w2 - zsz w)).locals ≤ R.locals := by show 8 + (N.2.2.1 + 11) + 35 * d ≤ R.locals; omega
      have hp : PreS s H (zPc G As w) (As.map (ztr G)) := ⟨zPc_blind, fun U hU hW => ⟨rfl, hmove U hU hW⟩⟩
      have hstk : (F0 m pc real ((As.reverse ++ rest).map (ztr G))).stack = (As.map (ztr G)).reverse ++ rest.map (ztr G) := by
        show (As.reverse ++ rest).map (ztr G) = _
        rw [List.map_append, List.map_reverse]
      have hd2 : N.1.cls ≠ "java/lang/invoke/MethodHandle" ∧ N.1.cls ≠ "java/lang/invoke/VarHandle" ∧ (parseMethodDescriptor N.1.desc).map (fun d => d.parameters.length) = some As.length := ⟨g2, g3, g5⟩
      refine fin (N := N) ?_ rfl
      rcases hlk with hlk | ⟨-, host, hlk⟩
      · exact va_runS ⟨hx, hb, hml, hown, hts⟩ (hMet N hN) ⟨callB_of (bytes := N.2.1) (maxL := N.2.2.1) (ret := N.2.2.2.1) (ws' := zTB) As.length hts (zws_good (zpm_in hN)) rfl rfl rfl (hts _ (a4 hj)) (hts _ hlk) hd2 ⟨room, hlocs⟩, hts _ (a1 rfl)⟩ hp rfl (by rw [List.length_map]) hsz hstk (hrestcat hcat) hd hc
      · exact va_runSN ⟨hx, hb, hml, hown, hts⟩ (hMet N hN) ⟨va_cnB (bytes := N.2.1) (maxL := N.2.2.1) (ret := N.2.2.2.1) (ws' := zTB) As.length hts (zws_good (zpm_in hN)) rfl rfl rfl (hNW _ hlk) (hts _ (a4 hj)) hd2 ⟨room, hlocs⟩, hts _ (a1 rfl), trivial⟩ hp rfl (by rw [List.length_map]) hsz hstk (hrestcat hcat) hd hc
  all_goals (rcases zno h with ⟨ix, hh⟩ | ⟨ix, hh⟩ | ⟨ix, hh⟩ <;> cases hh)
end ZINV
