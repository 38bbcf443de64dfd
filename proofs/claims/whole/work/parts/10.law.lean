theorem zj_up {G : zG} {l : Launch} {N : zPM} {d : Nat} {As : List Value} {r : Option Value} (h : zjMet G l N d (As.map (ztr G)) (r.map (ztr G))) (w : zW) : Met l N.1 (zws N) (zrm d 0 0) (zPc G As w) (zQc G r w) 0 0 (zA G) := by
  intro p e ha hc hk s m args below hf happ hP hK
  obtain ⟨n, o, h1, h2, h3, h4, h5⟩ := h p e ha hc hk s m args below hf happ ⟨hP.1, hP.2.1.2.2.1⟩ hK
  obtain ⟨_, hSt, hPw, hH, _⟩ := hP
  exact ⟨n, o, h1, h2, h3, ⟨⟨h4.1, by rw [h4.2]; exact hPw, by rw [h4.2]; exact hH⟩, by rw [h4.2]; exact Nat.le_refl _, fun q _ _ => by rw [h4.2]⟩, h5⟩
set_option maxRecDepth 100000 in
theorem zjLen_get : zpms[zjLen]? = some yjLen := rfl
set_option maxRecDepth 100000 in
theorem zjCh_get : zpms[zjCh]? = some yjCh := rfl
theorem zMet_all {G : zG} {l : Launch} : ∀ d, zMet G l d
  | 0 => fun _ _ _ _ _ h => False.elim h
  | d + 1 => zMet_succ (zMet_all d) (fun h4 N => ⟨fun hN w => by
      cases hN.symm.trans zjLen_get
      exact zj_up (As := [.ref zSTR]) (r := some (.int 97)) (zjm_Len d) w, fun hN w i hi => by
      cases hN.symm.trans zjCh_get
      obtain ⟨d', rfl⟩ : ∃ d', d = d' + 2 := ⟨d - 2, by omega⟩
      exact zj_up (As := [.ref zSTR, .int (nI i)]) (r := some (.int (zbyt i))) (zjm_Ch d' i hi) w⟩)
def R_law : String := "AdjectiveCouponsLaw"
def lw_P (b : Addr) (xs : List Int32) (args : Array Value) (s : State) : Prop := args = #[.ref b] ∧ s.IntsAt b xs ∧ xs.length ≤ 320 ∧ (Jvm.Cond.and given_1 narrow_1).before args s = true
def lw_Q (_ : Array Value) (s : State) (o : Outcome) (t : State) : Prop := o = .returned (some (.int 1)) ∧ Framed s o t [] 600000 7302250
def lw_Z (below : List Frame) (a : Array Value) (s : State) : State → Prop := fun t => ∃ o, t.status = .running ∧ Ended t below o ∧ lw_Q a s o t
/-- the law's own end, with 1 on the stack, nothing written that was there before, its room as the claim has it -/
theorem lw_ret {p : Program} {l : Launch} {e : Env} {s : State} {m : MethodId} {below : List Frame} {meth : Method} {c : Code} {b : Nat} (hx : p.tables.exec = Jvm.exec) (hb : c.code = code) (hr : meth.sig.returnType = ret) (hlocks : meth.locks = false) {pc : Nat} {H : Heap} {ls : Array Slot} (hdg : decode code pc = .ok (.ireturn, 1)) : W p l e room_1 s m #[Value.ref b] below meth c H [] 600000 7302250 (lw_Z below #[Value.ref b] s) (F0 m pc ls [.int 1]) := by
  intro T hT X
  obtain ⟨fs, hret, hrun, hended, hW, hframe⟩ := X.leave (v := some (.int 1)) (hlocks := hlocks) (fun h => by rw [hr] at h; cases h)
  have hmeth' : T.vm.method? m = some meth := X.method'
  refine ⟨T.setFrames fs, ?_, .returned (some (.int 1)), hrun, hended, rfl, ⟨_, rfl⟩, hW, hframe⟩
  jvm_step X.here [X.here.top, hx, hb, hdg, hmeth', hr, ret, narrow_b1]
  (try refine ⟨rfl, ?_⟩); (try refine ⟨rfl, ?_⟩)
  first | (intro acts; rw [hret _ acts rfl rfl rfl]) | rw [hret _ _ rfl rfl rfl]
  exact Steps.refl _
/-- what holds at the law's entry: the machine, the code, the tables' words (any of lw_tbl by 'hts w (by decide +kernel)'), the script of L ints xs at the cell b, what the Statement gives of the start (any of its parts by flat_of_before) -/
def lw_At (p : Program) (s : State) (m : MethodId) (meth : Method) (c : Code) (b L : Nat) (xs : Nat → Int32) : Prop :=
  p.tables.exec = Jvm.exec ∧ c.code = code ∧ meth.sig.returnType = ret ∧ c.maxLocals = 4 ∧ s.vm.findClass R_law = some m.cls ∧ (∀ w ∈ lw_tbl, w.before #[Value.ref b] s = true) ∧ va_X b L xs s s.heap ∧ b < s.heap.size ∧ meth.locks = false ∧ (Jvm.Cond.and given_1 narrow_1).before #[Value.ref b] s = true
-- ===== the law's start: the world is empty, the script is there =====
abbrev zlawM : zPM := (x, code, 4, ret, 11)
theorem zelems : ∀ j, j < 97 → (Cond.eq (.elem (.field (.string "AdjectiveCoupons$Text" 81) "java/lang/String" "value" "[B") (.int (Int32.ofNat j))) (.int (zbytes.getD j 0))) ∈ flatC (Jvm.Cond.and given_1 narrow_1) := by decide +kernel
theorem zstart {p : Program} {s : State} {m : MethodId} {meth : Method} {c : Code} {b L : Nat} {xs : Nat → Int32} (C0 : lw_At p s m meth c b L xs) : ∃ G : zG, zgL G = L ∧ zgx G = xs ∧ zgb G = b ∧ zgB G = s.heap.size ∧ zC G zlawM p s m #[Value.ref b] meth c := by
  obtain ⟨hx, hb, hr, hml, hown, hts, hX, hbl, hlocks, hgv⟩ := C0
  have hT : ∀ w ∈ zTB, w.before #[Value.ref b] s = true := fun w hw => hts w (List.mem_filter.mp hw).1
  have hflat := flat_of_before _ hgv
  obtain ⟨dC, dI, hKc⟩ : ∃ (dC : Nat → ClassId) (dI : Nat → Nat → Nat), ∀ (k : Nat) (q : vw_C), zcl[k]? = some q → u_Kn s q.1 q.2.1 q.2.2 (dC k) (dI k) := by
    have h : ∀ k : Nat, ∃ y : ClassId × (Nat → Nat), ∀ q : vw_C, zcl[k]? = some q → u_Kn s q.1 q.2.1 q.2.2 y.1 y.2 := by
      intro k
      cases hq : zcl[k]? with
      | none => exact ⟨(0, fun _ => 0), fun q h => by cases h⟩
      | some q =>
        obtain ⟨-, e2, -, e4, -⟩ := zcl_spec hq
        obtain ⟨cC, iS, hKn⟩ := u_known (C := q.1) (T := q.2.1) (N := q.2.2) hT e4 (hT _ e2)
        exact ⟨(cC, iS), fun q' h => by cases h; exact hKn⟩
    obtain ⟨f, hf⟩ := Classical.axiomOfChoice h
    exact ⟨fun k => (f k).1, fun k => (f k).2, hf⟩
  obtain ⟨cI, kI, pI, i1, i2, i3⟩ := Cond.arrayClass_spec (hT _ zarr_i)
  obtain ⟨cZ, kZ, pZ, z1, z2, z3⟩ := Cond.arrayClass_spec (hT _ zarr_z)
  have hA1 : (Cond.arrayOver (.object "AdjectiveCoupons$State")).before #[Value.ref b] s = true := hts _ (List.mem_of_getElem? (i := 225) (by decide +kernel))
  have hA2 : (Cond.arrayOver (.object "AdjectiveCoupons$Line")).before #[Value.ref b] s = true := hts _ (List.mem_of_getElem? (i := 286) (by decide +kernel))
  obtain ⟨pS, cS, kS, s1, -, s3, s4, s5⟩ := Cond.arrayOver_spec hA1
  obtain ⟨pN, cN, kN, n1, -, n3, n4, n5⟩ := Cond.arrayOver_spec hA2
  have hA : ∀ a : Nat, a < s.heap.size → ¬ (fun q : Nat => s.heap.size ≤ q) a := fun a h => Nat.not_le.mpr h
  obtain ⟨adK, adV, hstr, hev⟩ := vk_Sof (args := #[Value.ref b]) (s := s) (N := 1) (tm := fun _ => .string "AdjectiveCoupons$Text" 81) (len := [97]) (byt := [zbytes]) (A := fun q : Nat => s.heap.size ≤ q) (fun i hi => by rw [show i = 0 by omega]; decide)
    (fun i _ => hflat _ (by decide +kernel)) (fun i _ => hflat _ (by decide +kernel)) (fun i _ => hflat _ (by decide +kernel)) (fun i hi => by rw [show i = 0 by omega]; exact hflat _ (by decide +kernel)) (fun i hi j hj => by rw [show i = 0 by omega] at hj ⊢; exact hflat _ (zelems j hj)) (fun i j hi hj hij => absurd (by omega) hij) hA
  have hZ : va_Z "java/lang/String" "COMPACT_STRINGS" "Z" (.int 1) (fun q : Nat => s.heap.size ≤ q) s s.heap := va_Zof (args := #[Value.ref b]) (hts _ (List.mem_of_getElem? (i := 445) (by decide +kernel))) (hT _ zjI1) (va_eqt (hflat _ (by decide +kernel))) hA
  have hZq : va_Zq "jdk/internal/util/Preconditions" "SIOOBE_FORMATTER" "Ljava/util/function/BiFunction;" (fun q : Nat => s.heap.size ≤ q) s s.heap := va_Zqof (args := #[Value.ref b]) (hts _ (List.mem_of_getElem? (i := 461) (by decide +kernel))) (hT _ zjI3) (hflat _ (by decide +kernel)) hA
  have hR : vk_R "AdjectiveCoupons$Text" 81 ztx (adK 0) s := vk_R.of (hts _ (List.mem_of_getElem? (i := 435) (by decide +kernel))) (hev 0 (by decide))
  have hS1 : vk_S 1 [97] [zbytes] (fun _ => adK 0) adV (fun q : Nat => s.heap.size ≤ q) s s.heap := ⟨fun i hi => by have := hstr.1 i hi; rw [show i = 0 by omega] at this ⊢; exact this, fun i j hi hj _ => by omega⟩
  refine ⟨(b, s.heap.size, adK 0, (dC, dI), cI, cZ, cS, cN, L, xs, adV), rfl, rfl, rfl, rfl, hx, hb, hml, hT, hown, fun h => absurd h (by decide), rfl, ⟨hX, hbl, ⟨hS1, hR, hZ, hZq⟩, ⟨hKc, fun k q h => ?_⟩, fun w hw => ?_, va_AO.of hA1, va_AO.of hA2⟩, Nat.le_refl _⟩
  · match k, h with
    | 0, h => cases h; exact ⟨fun n z => ⟨fun k h => (by cases h), kI, i2, pI, i3⟩, i1⟩
    | 1, h => cases h; exact ⟨fun n z => ⟨fun k h => (by cases h), kZ, z2, pZ, z3⟩, z1⟩
    | 2, h => cases h; exact ⟨fun n z => ⟨fun k h => (by cases h), kS, s3, pS, s4⟩, kS, pS, s3, s4, s1, s5⟩
    | 3, h => cases h; exact ⟨fun n z => ⟨fun k h => (by cases h), kN, n3, pN, n4⟩, kN, pN, n3, n4, n1, n5⟩
    | k + 4, h => simp [ztys] at h
  · have h1 := (List.mem_filter.mp hw)
    have h2 := hts w h1.1
    cases w <;> first | exact va_Nw.of rfl h2 | (simp [znest] at h1)
/-- the law, out of a run of the small machine -/
theorem zlaw {p : Program} {e : Env} {s : State} {m : MethodId} {below : List Frame} {meth : Method} {c : Code} (l : Launch) {b L : Nat} {xs : Nat → Int32} (C0 : lw_At p s m meth c b L xs) {n : Nat} {w' : zW} (hrun : zRun L xs (zEv L xs 10) zlawM n 0 (zini 4 [.ref zSCR]) [] [] (some (.int 1)) w') (hc : w'.length ≤ 600000) (hz : zsz w' ≤ 7302250) : W p l e room_1 s m #[Value.ref b] below meth c s.heap [] 0 0 (lw_Z below #[Value.ref b] s) (entryFrame m ([Value.ref b] : List Value).toArray 4) := by
  obtain ⟨G, rfl, rfl, hGb, hGB, C⟩ := zstart C0
  obtain ⟨hx, hb, hr, hml, hown, hts, hX, hbl, hlocks, hgv⟩ := id C0
  have hl0 := lv_entry ([.ref b]) (n := 4) (Nat.le_of_ble_eq_true rfl)
  rw [lg_entry_eq]
  have hl : zls G 4 (zini 4 [.ref zSCR]) ((lg_sl ([.ref b]) ++ List.replicate (4 - (lg_sl ([.ref b])).length) Slot.unset).toArray) := by
    refine zini_ls (by decide) ?_
    have e1 : ([Value.ref zSCR].map (ztr G)) = [Value.ref b] := by
      show [Value.ref (zgb G)] = _
      rw [hGb]
    rw [e1]
    exact hl0
  have key := zrun_sound (l := l) (R := room_1) (e := e) (below := below) (Q := lw_Z below #[Value.ref b] s) (n0 := 0) (s0 := 0) (d := 10) (zMet_all 10) C (by decide) (by decide) (r := some (.int 1)) (w' := w')
    (fun H2 locs2 pc2 real2 x hP2 hS2 hH2 hr2 hret hdg => ?_) (fun H2 locs2 pc2 real2 v nm hP2 hS2 hH2 hr2 hv hret hdg => ?_) (fun H2 locs2 pc2 real2 hP2 hS2 hH2 hr2 hret hdg => ?_) (by show _ ≤ 600000; omega) (by show _ ≤ 7302250; omega) n 0 _ [] [] hrun (Nat.le_refl _) (Nat.le_refl _) (Nat.zero_le _) s.heap [] _ (fun k q h => by simp [ztoW] at h) va_S.rf (by rw [hGB]; rfl) hl
  · exact key
  · cases hr2
    refine va_forget (fun q hq => by have := hS2.2.2 q hq; rw [← hGB]; exact this) ?_
    refine W.widen (k := 600000) (n := 7302250) (by omega) (by omega) ?_
    exact lw_ret hx hb hr hlocks hdg
  · cases hr2
    simp [zrv] at hv
  · cases hr2
