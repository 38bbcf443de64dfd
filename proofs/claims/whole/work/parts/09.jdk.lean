-- ===== the JDK's methods that the text needs =====
def zjQ (r : Option Value) : Array Value → State → Outcome → State → Prop := fun _ st oc t => oc = .returned r ∧ t.heap = st.heap
def zjP (G : zG) (av : List Value) : Array Value → State → Prop := va_Pc av (fun U => zStr G U U.heap)
theorem zStr_same {G : zG} {U V : State} {H : Heap} (hv : U.vm = V.vm) (h : zStr G U H) : zStr G V H := by
  obtain ⟨hs1, hs2, hs3, hs4⟩ := h
  have hA : U.vm.Alike V.vm := by rw [hv]; exact Vm.Alike.refl _
  exact ⟨hs1.moved hA, hs2.same hv.symm, hs3.moved hA, hs4.moved hA⟩
theorem zStr_move {G : zG} {s U : State} {H : Heap} {locs : List Loc} (h : zStr G s s.heap) (hS : va_S (zA G) s.heap H locs) (hU : U.heap = H) (hW : s.WarmedH U.vm) : zStr G U U.heap := by
  obtain ⟨hs1, hs2, hs3, hs4⟩ := h
  have hq : ∀ a : Nat, a < s.heap.size → ¬ zA G a → U.heap[a]? = s.heap[a]? := fun a h1 h2 => by rw [hU]; exact hS.2.1 a h1 h2
  exact ⟨(hs1.kept hq).moved hW.alike, hs2.warm hW, (hs3.kept hq).moved hW.alike, (hs4.kept hq).moved hW.alike⟩
theorem zjP_blind {G : zG} {av : List Value} : FrameBlind (zjP G av) := by
  intro a U g mk h
  exact ⟨h.1, zStr_same (U := U) (V := U.calling g mk a) rfl h.2⟩
abbrev zjMet (G : zG) (l : Launch) (N : zPM) (d : Nat) (av : List Value) (r : Option Value) : Prop := Met l N.1 (zws N) (zrm d 0 0) (zjP G av) (zjQ r) 0 0 (zA G)
theorem zjof {G : zG} {l : Launch} {N : zPM} (hp : plainName N.1.cls = true) {d : Nat} {av : List Value} {r : Option Value} (hlen : (lg_sl av).length ≤ N.2.2.1)
    (body : ∀ (p : Program) (e : Env) (s : State) (m : MethodId) (below : List Frame) (meth : Method) (c : Code) (real : Array Slot), p.tables.exec = Jvm.exec → c.code = N.2.1 → c.maxLocals = N.2.2.1 → meth.sig.returnType = N.2.2.2.1 → (∀ w ∈ zTB, w.before av.toArray s = true) → s.vm.findClass N.1.cls = some m.cls → meth.locks = false → zStr G s s.heap → lv_has real N.2.2.1 (lv_args 0 av) → va_S (zA G) s.heap s.heap [] →
      W p l e (zrm d 0 0) s m av.toArray below meth c s.heap [] 0 0 (MQ below (zjQ r) av.toArray s 0 0 (zA G)) (F0 m 0 real [])) : zjMet G l N d av r := by
  refine Met.ofW (cc := N.2.1) (maxL := N.2.2.1) (ret := N.2.2.2.1) hp rfl ?_
  intro p e s m args below meth c s₁ B hml hv
  obtain ⟨rfl, hs⟩ := hv
  have hts0 := atoms_spec (ws := zws N) B.pre
  have hl := lv_entry av (n := N.2.2.1) hlen
  rw [lg_entry_eq]
  exact body p e s m below meth c _ B.exec B.bytes hml B.returns (fun w hw => hts0 w (List.mem_cons_of_mem _ hw)) (findClass_of_methodNamed B.named) B.notSynchronized hs hl va_S.rf
section ZJ
variable {p : Program} {l : Launch} {e : Env} {R : Room} {s : State} {m : MethodId} {args : Array Value} {below : List Frame} {meth : Method} {c : Code} {locs : List Loc} {cells slots : Nat} {Q : State → Prop} {cc : ByteArray} {pc : Nat} {real : Array Slot} {G : zG}
theorem zjcallS {own : String} {ix nL d : Nat} {N : zPM} {av rest : List Value} {r : Option Value} (hM : zjMet G l N d av r) (S : CallFix p m c cc nL s args zTB own) (hN : zmk N ∈ zTB) (hmaxL : N.2.2.1 ≤ 16) (hini : Cond.initialized N.1.cls ∈ zTB) (hlk : Cond.methodLink own ix N.1 ∈ zTB) (hst : Cond.static N.1 ∈ zTB)
    (hd : N.1.cls ≠ "java/lang/invoke/MethodHandle" ∧ N.1.cls ≠ "java/lang/invoke/VarHandle" ∧ (parseMethodDescriptor N.1.desc).map (fun d => d.parameters.length) = some av.length) (hstr : zStr G s s.heap) (hS : va_S (zA G) s.heap s.heap locs) (hcat : (rest.map fun v => v.category).sum ≤ 8) (hsize : real.size = nL) (hdg : decode cc pc = .ok (.invokestatic ix, 3)) (hR : d + 1 ≤ R.frames ∧ 35 * d + 35 ≤ R.locals) (hc : cells ≤ R.cells ∧ slots ≤ R.slots)
    (kk : ∀ locs1, va_S (zA G) s.heap s.heap locs1 → W p l e R s m args below meth c s.heap locs1 cells slots Q (F0 m (pc + 3) real (r.toList ++ rest))) : W p l e R s m args below meth c s.heap locs cells slots Q (F0 m pc real (av.reverse ++ rest)) := by
  have hp : PreS s s.heap (zjP G av) av := ⟨zjP_blind, fun U hU hW => ⟨rfl, zStr_move hstr hS hU hW⟩⟩
  have hts := S.2.2.2.2
  refine zcall (va_runS (mc := 0) (ms := 0) S hM ⟨callB_of (bytes := N.2.1) (maxL := N.2.2.1) (ret := N.2.2.2.1) (ws' := zTB) av.length hts (zws_good hN) rfl rfl rfl (hts _ hini) (hts _ hlk) hd ⟨hR.1, by show 8 + (N.2.2.1 + 11) + 35 * d ≤ R.locals; omega⟩, hts _ hst⟩ hp rfl rfl hsize rfl (lv_room hcat) hdg hc) hS (fun q h => h) (fun st oc t h => ⟨by rw [h.2]; exact Nat.le_refl _, fun q _ _ => by rw [h.2]⟩) (fun v st₀ t H1 locs1 ht h0 hq hS1 => ?_)
  obtain ⟨hv, hh⟩ := hq
  cases hv
  have e1 : H1 = s.heap := by rw [← ht, hh, h0]
  subst e1
  exact kk locs1 hS1
theorem zjcallV {own : String} {ix nL d b : Nat} {N : zPM} {av rest : List Value} {r : Option Value} (hM : zjMet G l N d (.ref b :: av) r) (S : CallFix p m c cc nL s args zTB own) (hN : zmk N ∈ zTB) (hmaxL : N.2.2.1 ≤ 16) (hini : Cond.initialized N.1.cls ∈ zTB) (hlk : Cond.methodLink own ix N.1 ∈ zTB) (hin : Cond.instanceMethod N.1 ∈ zTB) (hsel : Cond.selects N.1.cls N.1 N.1 ∈ zTB)
    (hrecv : ∃ cellB : Cell, s.heap[b]? = some cellB ∧ cellB.vm.isStatics = false ∧ s.vm.findClass N.1.cls = some cellB.cls)
    (hd : N.1.cls ≠ "java/lang/invoke/MethodHandle" ∧ N.1.cls ≠ "java/lang/invoke/VarHandle" ∧ (parseMethodDescriptor N.1.desc).map (fun d => d.parameters.length) = some av.length) (hstr : zStr G s s.heap) (hS : va_S (zA G) s.heap s.heap locs) (hcat : (rest.map fun v => v.category).sum ≤ 8) (hsize : real.size = nL) (hdg : decode cc pc = .ok (.invokevirtual ix, 3)) (hR : d + 1 ≤ R.frames ∧ 35 * d + 35 ≤ R.locals) (hc : cells ≤ R.cells ∧ slots ≤ R.slots)
    (kk : ∀ locs1, va_S (zA G) s.heap s.heap locs1 → W p l e R s m args below meth c s.heap locs1 cells slots Q (F0 m (pc + 3) real (r.toList ++ rest))) : W p l e R s m args below meth c s.heap locs cells slots Q (F0 m pc real (av.reverse ++ .ref b :: rest)) := by
  have hp : PreV s s.heap N.1.cls b (zjP G (.ref b :: av)) av := ⟨zjP_blind, hrecv, fun U hU hW => ⟨rfl, zStr_move hstr hS hU hW⟩⟩
  have hts := S.2.2.2.2
  refine zcall (va_runV (mc := 0) (ms := 0) S hM ⟨callB_of (bytes := N.2.1) (maxL := N.2.2.1) (ret := N.2.2.2.1) (ws' := zTB) av.length hts (zws_good hN) rfl rfl rfl (hts _ hini) (hts _ hlk) hd ⟨hR.1, by show 8 + (N.2.2.1 + 11) + 35 * d ≤ R.locals; omega⟩, hts _ hin, hts _ hsel⟩ hp rfl rfl hsize rfl (lv_room hcat) hdg hc) hS (fun q h => h) (fun st oc t h => ⟨by rw [h.2]; exact Nat.le_refl _, fun q _ _ => by rw [h.2]⟩) (fun v st₀ t H1 locs1 ht h0 hq hS1 => ?_)
  obtain ⟨hv, hh⟩ := hq
  cases hv
  have e1 : H1 = s.heap := by rw [← ht, hh, h0]
  subst e1
  exact kk locs1 hS1
end ZJ
abbrev yjLen : zPM := (⟨"java/lang/String", "length", "()I"⟩, prog_15_method_54_code, 1, (Option.some Jvm.ClassFile.FieldType.int), 99)
set_option maxRecDepth 100000 in
theorem yjLen_in : zmk yjLen ∈ zTB := zpm_in (j := 25) rfl
abbrev yjCod : zPM := (⟨"java/lang/String", "coder", "()B"⟩, prog_15_method_152_code, 1, (Option.some Jvm.ClassFile.FieldType.byte), 99)
set_option maxRecDepth 100000 in
theorem yjCod_in : zmk yjCod ∈ zTB := zpm_in (j := 26) rfl
abbrev yjCh : zPM := (⟨"java/lang/String", "charAt", "(I)C"⟩, prog_15_method_56_code, 2, (Option.some Jvm.ClassFile.FieldType.char), 99)
set_option maxRecDepth 100000 in
theorem yjCh_in : zmk yjCh ∈ zTB := zpm_in (j := 27) rfl
abbrev yjLat : zPM := (⟨"java/lang/String", "isLatin1", "()Z"⟩, prog_15_method_154_code, 1, (Option.some Jvm.ClassFile.FieldType.boolean), 99)
set_option maxRecDepth 100000 in
theorem yjLat_in : zmk yjLat ∈ zTB := zpm_in (j := 28) rfl
abbrev yjLCh : zPM := (⟨"java/lang/StringLatin1", "charAt", "([BI)C"⟩, prog_16_method_2_code, 2, (Option.some Jvm.ClassFile.FieldType.char), 99)
set_option maxRecDepth 100000 in
theorem yjLCh_in : zmk yjLCh ∈ zTB := zpm_in (j := 29) rfl
abbrev yjCI : zPM := (⟨"java/lang/String", "checkIndex", "(II)V"⟩, prog_15_method_155_code, 2, (Option.none : Option Jvm.ClassFile.FieldType), 99)
set_option maxRecDepth 100000 in
theorem yjCI_in : zmk yjCI ∈ zTB := zpm_in (j := 30) rfl
abbrev yjPC : zPM := (⟨"jdk/internal/util/Preconditions", "checkIndex", "(IILjava/util/function/BiFunction;)I"⟩, prog_18_method_11_code, 3, (Option.some Jvm.ClassFile.FieldType.int), 99)
set_option maxRecDepth 100000 in
theorem yjPC_in : zmk yjPC ∈ zTB := zpm_in (j := 31) rfl
theorem yjCod_0 : decode yjCod.2.1 0 = .ok (.getstatic 38, 3) := by decide +kernel
theorem yjCod_3 : decode yjCod.2.1 3 = .ok (.ifCond .eq 10, 3) := by decide +kernel
theorem yjCod_6 : decode yjCod.2.1 6 = .ok (.aload_n 0, 1) := by decide +kernel
theorem yjCod_7 : decode yjCod.2.1 7 = .ok (.getfield 15, 3) := by decide +kernel
theorem yjCod_10 : decode yjCod.2.1 10 = .ok (.goto 4, 3) := by decide +kernel
theorem yjCod_14 : decode yjCod.2.1 14 = .ok (.ireturn, 1) := by decide +kernel
theorem yjLat_0 : decode yjLat.2.1 0 = .ok (.getstatic 38, 3) := by decide +kernel
theorem yjLat_3 : decode yjLat.2.1 3 = .ok (.ifCond .eq 14, 3) := by decide +kernel
theorem yjLat_6 : decode yjLat.2.1 6 = .ok (.aload_n 0, 1) := by decide +kernel
theorem yjLat_7 : decode yjLat.2.1 7 = .ok (.getfield 15, 3) := by decide +kernel
theorem yjLat_10 : decode yjLat.2.1 10 = .ok (.ifCond .ne 7, 3) := by decide +kernel
theorem yjLat_13 : decode yjLat.2.1 13 = .ok (.iconst 1, 1) := by decide +kernel
theorem yjLat_14 : decode yjLat.2.1 14 = .ok (.goto 4, 3) := by decide +kernel
theorem yjLat_18 : decode yjLat.2.1 18 = .ok (.ireturn, 1) := by decide +kernel
theorem yjLen_0 : decode yjLen.2.1 0 = .ok (.aload_n 0, 1) := by decide +kernel
theorem yjLen_1 : decode yjLen.2.1 1 = .ok (.getfield 9, 3) := by decide +kernel
theorem yjLen_4 : decode yjLen.2.1 4 = .ok (.arraylength, 1) := by decide +kernel
theorem yjLen_5 : decode yjLen.2.1 5 = .ok (.aload_n 0, 1) := by decide +kernel
theorem yjLen_6 : decode yjLen.2.1 6 = .ok (.invokevirtual 335, 3) := by decide +kernel
theorem yjLen_9 : decode yjLen.2.1 9 = .ok (.ishr, 1) := by decide +kernel
theorem yjLen_10 : decode yjLen.2.1 10 = .ok (.ireturn, 1) := by decide +kernel
theorem yjCh_0 : decode yjCh.2.1 0 = .ok (.aload_n 0, 1) := by decide +kernel
theorem yjCh_1 : decode yjCh.2.1 1 = .ok (.invokevirtual 492, 3) := by decide +kernel
theorem yjCh_4 : decode yjCh.2.1 4 = .ok (.ifCond .eq 12, 3) := by decide +kernel
theorem yjCh_7 : decode yjCh.2.1 7 = .ok (.aload_n 0, 1) := by decide +kernel
theorem yjCh_8 : decode yjCh.2.1 8 = .ok (.getfield 9, 3) := by decide +kernel
theorem yjCh_11 : decode yjCh.2.1 11 = .ok (.iload_n 1, 1) := by decide +kernel
theorem yjCh_12 : decode yjCh.2.1 12 = .ok (.invokestatic 495, 3) := by decide +kernel
theorem yjCh_15 : decode yjCh.2.1 15 = .ok (.ireturn, 1) := by decide +kernel
theorem yjLCh_0 : decode yjLCh.2.1 0 = .ok (.iload_n 1, 1) := by decide +kernel
theorem yjLCh_1 : decode yjLCh.2.1 1 = .ok (.aload_n 0, 1) := by decide +kernel
theorem yjLCh_2 : decode yjLCh.2.1 2 = .ok (.arraylength, 1) := by decide +kernel
theorem yjLCh_3 : decode yjLCh.2.1 3 = .ok (.invokestatic 9, 3) := by decide +kernel
theorem yjLCh_6 : decode yjLCh.2.1 6 = .ok (.aload_n 0, 1) := by decide +kernel
theorem yjLCh_7 : decode yjLCh.2.1 7 = .ok (.iload_n 1, 1) := by decide +kernel
theorem yjLCh_8 : decode yjLCh.2.1 8 = .ok (.baload, 1) := by decide +kernel
theorem yjLCh_9 : decode yjLCh.2.1 9 = .ok (.sipush 255, 3) := by decide +kernel
theorem yjLCh_12 : decode yjLCh.2.1 12 = .ok (.iand, 1) := by decide +kernel
theorem yjLCh_13 : decode yjLCh.2.1 13 = .ok (.i2c, 1) := by decide +kernel
theorem yjLCh_14 : decode yjLCh.2.1 14 = .ok (.ireturn, 1) := by decide +kernel
theorem yjCI_0 : decode yjCI.2.1 0 = .ok (.iload_n 0, 1) := by decide +kernel
theorem yjCI_1 : decode yjCI.2.1 1 = .ok (.iload_n 1, 1) := by decide +kernel
theorem yjCI_2 : decode yjCI.2.1 2 = .ok (.getstatic 1053, 3) := by decide +kernel
theorem yjCI_5 : decode yjCI.2.1 5 = .ok (.invokestatic 1059, 3) := by decide +kernel
theorem yjCI_8 : decode yjCI.2.1 8 = .ok (.pop, 1) := by decide +kernel
theorem yjCI_9 : decode yjCI.2.1 9 = .ok (.return_, 1) := by decide +kernel
theorem yjPC_0 : decode yjPC.2.1 0 = .ok (.iload_n 0, 1) := by decide +kernel
theorem yjPC_1 : decode yjPC.2.1 1 = .ok (.ifCond .lt 8, 3) := by decide +kernel
theorem yjPC_4 : decode yjPC.2.1 4 = .ok (.iload_n 0, 1) := by decide +kernel
theorem yjPC_5 : decode yjPC.2.1 5 = .ok (.iload_n 1, 1) := by decide +kernel
theorem yjPC_6 : decode yjPC.2.1 6 = .ok (.if_icmp .lt 10, 3) := by decide +kernel
theorem yjPC_16 : decode yjPC.2.1 16 = .ok (.iload_n 0, 1) := by decide +kernel
theorem yjPC_17 : decode yjPC.2.1 17 = .ok (.ireturn, 1) := by decide +kernel
theorem zjF38 : Cond.fieldLink "java/lang/String" 38 "java/lang/String" "COMPACT_STRINGS" "Z" ∈ zTB := zok_in (k := 444) (by decide +kernel)
theorem zjF15 : Cond.fieldLink "java/lang/String" 15 "java/lang/String" "coder" "B" ∈ zTB := zok_in (k := 1432) (by decide +kernel)
theorem zjF9 : Cond.fieldLink "java/lang/String" 9 "java/lang/String" "value" "[B" ∈ zTB := zok_in (k := 1431) (by decide +kernel)
theorem zjF1053 : Cond.fieldLink "java/lang/String" 1053 "jdk/internal/util/Preconditions" "SIOOBE_FORMATTER" "Ljava/util/function/BiFunction;" ∈ zTB := zok_in (k := 460) (by decide +kernel)
theorem zjL335 : Cond.methodLink "java/lang/String" 335 yjCod.1 ∈ zTB := zok_in (k := 440) (by decide +kernel)
theorem zjL335i : Cond.instanceMethod yjCod.1 ∈ zTB := zok_in (k := 441) (by decide +kernel)
theorem zjL335s : Cond.selects yjCod.1.cls yjCod.1 yjCod.1 ∈ zTB := zok_in (k := 442) (by decide +kernel)
theorem zjL492 : Cond.methodLink "java/lang/String" 492 yjLat.1 ∈ zTB := zok_in (k := 450) (by decide +kernel)
theorem zjL492i : Cond.instanceMethod yjLat.1 ∈ zTB := zok_in (k := 451) (by decide +kernel)
theorem zjL492s : Cond.selects yjLat.1.cls yjLat.1 yjLat.1 ∈ zTB := zok_in (k := 452) (by decide +kernel)
theorem zjL495 : Cond.methodLink "java/lang/String" 495 yjLCh.1 ∈ zTB := zok_in (k := 454) (by decide +kernel)
theorem zjL495s : Cond.static yjLCh.1 ∈ zTB := zok_in (k := 455) (by decide +kernel)
theorem zjL9 : Cond.methodLink "java/lang/StringLatin1" 9 yjCI.1 ∈ zTB := zok_in (k := 457) (by decide +kernel)
theorem zjL9s : Cond.static yjCI.1 ∈ zTB := zok_in (k := 458) (by decide +kernel)
theorem zjL1059 : Cond.methodLink "java/lang/String" 1059 yjPC.1 ∈ zTB := zok_in (k := 462) (by decide +kernel)
theorem zjL1059s : Cond.static yjPC.1 ∈ zTB := zok_in (k := 463) (by decide +kernel)
theorem zjI1 : Cond.initialized "java/lang/String" ∈ zTB := zok_in (k := 78) (by decide +kernel)
theorem zjI2 : Cond.initialized "java/lang/StringLatin1" ∈ zTB := zok_in (k := 79) (by decide +kernel)
theorem zjI3 : Cond.initialized "jdk/internal/util/Preconditions" ∈ zTB := zok_in (k := 80) (by decide +kernel)
theorem zbyt_ok : ∀ i, i < 97 → ((zbyt i &&& 255).toUInt32 % 65536).toInt32 = zbyt i ∧ narrow .char (.int (zbyt i)) = .int (zbyt i) := by decide +kernel
section ZJM
variable {l : Launch} {G : zG}
theorem zjm_Cod (d : Nat) : zjMet G l yjCod d [.ref (zgs G)] (some (.int 0)) := by
  refine zjof rfl (Nat.le_of_ble_eq_true rfl) ?_
  intro p e s m below meth c real hx hb hml hr hts hown hlocks hstr hl hS
  have hl0 : real[0]? = some (.val (.ref (zgs G))) := hl.2.2 (0, .ref (zgs G)) List.mem_cons_self
  have hO := (hstr.1.1 0 (by decide)).2.1
  refine va_gets hx hb hstr.2.2.1 hS hown (hts _ zjF38) (fun _ h => h) yjCod_0 ?_
  refine lv_if_eq (tgt := 13) hx hb yjCod_3 (by decide) (fun h => absurd h (by decide)) (fun _ => ?_)
  refine lv_aload_n hx hb yjCod_6 rfl hl0 ?_
  refine vk_getf hx hb hO hS hown (hts _ zjF15) (fun _ h => h) yjCod_7 ?_
  refine lv_goto (tgt := 14) hx hb yjCod_10 (by decide) ?_
  exact W.zret (ty := .byte) hx hb hr (by decide) (fun t ht hW => ⟨rfl, ht⟩) hS.2.2 yjCod_14 hlocks
theorem zjm_Lat (d : Nat) : zjMet G l yjLat d [.ref (zgs G)] (some (.int 1)) := by
  refine zjof rfl (Nat.le_of_ble_eq_true rfl) ?_
  intro p e s m below meth c real hx hb hml hr hts hown hlocks hstr hl hS
  have hl0 : real[0]? = some (.val (.ref (zgs G))) := hl.2.2 (0, .ref (zgs G)) List.mem_cons_self
  have hO := (hstr.1.1 0 (by decide)).2.1
  refine va_gets hx hb hstr.2.2.1 hS hown (hts _ zjF38) (fun _ h => h) yjLat_0 ?_
  refine lv_if_eq (tgt := 17) hx hb yjLat_3 (by decide) (fun h => absurd h (by decide)) (fun _ => ?_)
  refine lv_aload_n hx hb yjLat_6 rfl hl0 ?_
  refine vk_getf hx hb hO hS hown (hts _ zjF15) (fun _ h => h) yjLat_7 ?_
  refine lv_if_ne (tgt := 17) hx hb yjLat_10 (by decide) (fun h => absurd rfl h) (fun _ => ?_)
  refine lv_iconst (v := 1) hx hb yjLat_13 rfl ?_
  refine lv_goto (tgt := 18) hx hb yjLat_14 (by decide) ?_
  exact W.zret (ty := .boolean) hx hb hr (by decide) (fun t ht hW => ⟨rfl, ht⟩) hS.2.2 yjLat_18 hlocks
theorem zjm_PC (d i n : Nat) (f : Value) (hi : i < n) (hn : n < 2 ^ 31) (hf : f = .null ∨ ∃ q, f = .ref q) : zjMet G l yjPC d [.int (nI i), .int (nI n), f] (some (.int (nI i))) := by
  refine zjof (by decide) (by rcases hf with rfl | ⟨q, rfl⟩ <;> exact Nat.le_of_ble_eq_true rfl) ?_
  intro p e s m below meth c real hx hb hml hr hts hown hlocks hstr hl hS
  have hl0 : real[0]? = some (.val (.int (nI i))) := hl.2.2 (0, .int (nI i)) List.mem_cons_self
  have hl1 : real[1]? = some (.val (.int (nI n))) := hl.2.2 (1, .int (nI n)) (List.mem_cons_of_mem _ List.mem_cons_self)
  refine lv_iload_n hx hb yjPC_0 rfl hl0 ?_
  refine lv_if_lt (tgt := 9) hx hb yjPC_1 (by decide) (fun h => absurd h (nI_pos (by omega))) (fun _ => ?_)
  refine lv_iload_n hx hb yjPC_4 rfl hl0 ?_
  refine lv_iload_n hx hb yjPC_5 rfl hl1 ?_
  refine lv_icmp_lt (tgt := 16) hx hb yjPC_6 (by decide) (fun _ => ?_) (fun h => absurd (nI_lt hi hn) h)
  refine lv_iload_n hx hb yjPC_16 rfl hl0 ?_
  exact W.zret (ty := .int) hx hb hr rfl (fun t ht hW => ⟨rfl, ht⟩) hS.2.2 yjPC_17 hlocks
theorem zjm_CI (d i n : Nat) (hi : i < n) (hn : n < 2 ^ 31) : zjMet G l yjCI (d + 1) [.int (nI i), .int (nI n)] none := by
  refine zjof rfl (Nat.le_of_ble_eq_true rfl) ?_
  intro p e s m below meth c real hx hb hml hr hts hown hlocks hstr hl hS
  have hl0 : real[0]? = some (.val (.int (nI i))) := hl.2.2 (0, .int (nI i)) List.mem_cons_self
  have hl1 : real[1]? = some (.val (.int (nI n))) := hl.2.2 (1, .int (nI n)) (List.mem_cons_of_mem _ List.mem_cons_self)
  have key : ∀ f : Value, (f = .null ∨ ∃ q, f = .ref q) → W p l e (zrm (d + 1) 0 0) s m ([.int (nI i), .int (nI n)] : List Value).toArray below meth c s.heap [] 0 0 (MQ below (zjQ none) ([.int (nI i), .int (nI n)] : List Value).toArray s 0 0 (zA G)) (F0 m (0 + 1 + 1 + 3) real [f, .int (nI n), .int (nI i)]) := by
    intro f hf
    refine zjcallS (av := [.int (nI i), .int (nI n), f]) (rest := []) (zjm_PC d i n f hi hn hf) ⟨hx, hb, hml, hown, hts⟩ yjPC_in (by decide) zjI3 zjL1059 zjL1059s ⟨by decide, by decide, by show _ = some 3; decide +kernel⟩ hstr hS (by decide) hl.1 yjCI_5 ⟨Nat.le_refl _, by show _ ≤ 35 * (d + 1); omega⟩ ⟨Nat.le_refl _, Nat.le_refl _⟩ (fun locs1 hS1 => ?_)
    refine lv_pop hx hb yjCI_8 rfl ?_
    exact W.vret hx hb hr (fun t ht hW => ⟨rfl, ht⟩) hS1.2.2 yjCI_9 hlocks
  refine lv_iload_n hx hb yjCI_0 rfl hl0 ?_
  refine lv_iload_n hx hb yjCI_1 rfl hl1 ?_
  rcases hstr.2.2.2 with hz | ⟨q, hz⟩
  · exact va_gets hx hb hz hS hown (hts _ zjF1053) (fun _ h => h) yjCI_2 (key _ (Or.inl rfl))
  · exact va_gets hx hb hz hS hown (hts _ zjF1053) (fun _ h => h) yjCI_2 (key _ (Or.inr ⟨_, rfl⟩))
theorem zjm_LCh (d i t : Nat) (hi : i < 97) (ht : t = zgv G 0) : zjMet G l yjLCh (d + 2) [.ref t, .int (nI i)] (some (.int (zbyt i))) := by
  refine zjof rfl (Nat.le_of_ble_eq_true rfl) ?_
  intro p e s m below meth c real hx hb hml hr hts hown hlocks hstr hl hS
  have hl0 : real[0]? = some (.val (.ref t)) := hl.2.2 (0, .ref t) List.mem_cons_self
  have hl1 : real[1]? = some (.val (.int (nI i))) := hl.2.2 (1, .int (nI i)) (List.mem_cons_of_mem _ List.mem_cons_self)
  obtain ⟨scr, h1, h2, h3, h4, h5, h6, h7⟩ := (hstr.1.1 0 (by decide)).2.2.2
  have hlen97 : ([97] : List Nat).getD 0 0 = 97 := rfl
  rw [hlen97] at h4 h5 h6
  rw [← ht] at h1
  refine lv_iload_n hx hb yjLCh_0 rfl hl1 ?_
  refine lv_aload_n hx hb yjLCh_1 rfl hl0 ?_
  refine W.alen (n := nI 97) hx hb h1 h2 h5 rfl rfl yjLCh_2 ?_
  refine zjcallS (av := [.int (nI i), .int (nI 97)]) (rest := []) (zjm_CI d i 97 hi (by decide)) ⟨hx, hb, hml, hown, hts⟩ yjCI_in (by decide) zjI1 zjL9 zjL9s ⟨by decide, by decide, by show _ = some 2; decide +kernel⟩ hstr hS (by decide) hl.1 yjLCh_3 ⟨Nat.le_refl _, by show _ ≤ 35 * (d + 2); omega⟩ ⟨Nat.le_refl _, Nat.le_refl _⟩ (fun locs1 hS1 => ?_)
  refine lv_aload_n hx hb yjLCh_6 rfl hl0 ?_
  refine lv_iload_n hx hb yjLCh_7 rfl hl1 ?_
  refine W.bald (v := .int (zbyt i)) hx hb h1 h2 h3 (by rintro (hz | hz); exact absurd hz (nI_pos (by omega)); rw [nI_clamp (by omega)] at hz; omega) (by rw [nI_clamp (by omega)]; exact h6 i hi) rfl rfl yjLCh_8 ?_
  refine lv_sipush (v := 255) hx hb yjLCh_9 rfl ?_
  refine lv_iand hx hb yjLCh_12 ?_
  have hz : ((zbyt i &&& 255).toUInt32 % 65536).toInt32 = zbyt i ∧ narrow .char (.int (zbyt i)) = .int (zbyt i) := by
    have := zbyt_ok i hi
    exact this
  refine lv_i2c hx hb yjLCh_13 hz.1 ?_
  exact W.zret (ty := .char) hx hb hr hz.2 (fun t ht hW => ⟨rfl, ht⟩) hS1.2.2 yjLCh_14 hlocks
theorem zjm_Ch (d i : Nat) (hi : i < 97) : zjMet G l yjCh (d + 3) [.ref (zgs G), .int (nI i)] (some (.int (zbyt i))) := by
  refine zjof rfl (Nat.le_of_ble_eq_true rfl) ?_
  intro p e s m below meth c real hx hb hml hr hts hown hlocks hstr hl hS
  have hl0 : real[0]? = some (.val (.ref (zgs G))) := hl.2.2 (0, .ref (zgs G)) List.mem_cons_self
  have hl1 : real[1]? = some (.val (.int (nI i))) := hl.2.2 (1, .int (nI i)) (List.mem_cons_of_mem _ List.mem_cons_self)
  have hO := (hstr.1.1 0 (by decide)).2.2.1
  refine lv_aload_n hx hb yjCh_0 rfl hl0 ?_
  refine zjcallV (av := []) (rest := []) (zjm_Lat (d + 2)) ⟨hx, hb, hml, hown, hts⟩ yjLat_in (by decide) zjI1 zjL492 zjL492i zjL492s (vk_recv (i := 0) hstr.1 (by decide) hS) ⟨by decide, by decide, by show _ = some 0; decide +kernel⟩ hstr hS (by decide) hl.1 yjCh_1 ⟨Nat.le_refl _, by show _ ≤ 35 * (d + 3); omega⟩ ⟨Nat.le_refl _, Nat.le_refl _⟩ (fun locs1 hS1 => ?_)
  refine lv_if_eq (tgt := 16) hx hb yjCh_4 (by decide) (fun h => absurd h (by decide)) (fun _ => ?_)
  refine lv_aload_n hx hb yjCh_7 rfl hl0 ?_
  refine vk_getf hx hb hO hS1 hown (hts _ zjF9) (fun _ h => h) yjCh_8 ?_
  refine lv_iload_n hx hb yjCh_11 rfl hl1 ?_
  refine zjcallS (av := [.ref (zgv G 0), .int (nI i)]) (rest := []) (zjm_LCh d i (zgv G 0) hi rfl) ⟨hx, hb, hml, hown, hts⟩ yjLCh_in (by decide) zjI2 zjL495 zjL495s ⟨by decide, by decide, by show _ = some 2; decide +kernel⟩ hstr hS1 (by decide) hl.1 yjCh_12 ⟨Nat.le_refl _, by show _ ≤ 35 * (d + 3); omega⟩ ⟨Nat.le_refl _, Nat.le_refl _⟩ (fun locs2 hS2 => ?_)
  have hz := (zbyt_ok i hi).2
  exact W.zret (ty := .char) hx hb hr hz (fun t ht hW => ⟨rfl, ht⟩) hS2.2.2 yjCh_15 hlocks
theorem zjm_Len (d : Nat) : zjMet G l yjLen (d + 1) [.ref (zgs G)] (some (.int 97)) := by
  refine zjof rfl (Nat.le_of_ble_eq_true rfl) ?_
  intro p e s m below meth c real hx hb hml hr hts hown hlocks hstr hl hS
  have hl0 : real[0]? = some (.val (.ref (zgs G))) := hl.2.2 (0, .ref (zgs G)) List.mem_cons_self
  have hO := (hstr.1.1 0 (by decide)).2.2.1
  obtain ⟨scr, h1, h2, h3, h4, h5, h6, h7⟩ := (hstr.1.1 0 (by decide)).2.2.2
  have hlen97 : ([97] : List Nat).getD 0 0 = 97 := rfl
  rw [hlen97] at h5
  refine lv_aload_n hx hb yjLen_0 rfl hl0 ?_
  refine vk_getf hx hb hO hS hown (hts _ zjF9) (fun _ h => h) yjLen_1 ?_
  refine W.alen (n := 97) hx hb h1 h2 h5 rfl rfl yjLen_4 ?_
  refine lv_aload_n hx hb yjLen_5 rfl hl0 ?_
  refine zjcallV (av := []) (rest := [.int 97]) (zjm_Cod d) ⟨hx, hb, hml, hown, hts⟩ yjCod_in (by decide) zjI1 zjL335 zjL335i zjL335s (vk_recv (i := 0) hstr.1 (by decide) hS) ⟨by decide, by decide, by show _ = some 0; decide +kernel⟩ hstr hS (by decide) hl.1 yjLen_6 ⟨Nat.le_refl _, by show _ ≤ 35 * (d + 1); omega⟩ ⟨Nat.le_refl _, Nat.le_refl _⟩ (fun locs1 hS1 => ?_)
  refine lv_ishr hx hb yjLen_9 ?_
  exact W.zret (v := 97) (ty := .int) hx hb hr rfl (fun t ht hW => ⟨rfl, ht⟩) hS1.2.2 yjLen_10 hlocks
end ZJM
