-- ===== what stays as it is: the script, the text, the tables' words of nest mates =====
def ztx : String := "realm noun plain colour half name change citizen lover critic poet ration names twice swell mild "
def zStr (G : zG) (U : State) (H : Heap) : Prop := vk_S 1 [97] [zbytes] (fun _ => zgs G) (zgv G) (zA G) U H ∧ vk_R "AdjectiveCoupons$Text" 81 ztx (zgs G) U ∧ va_Z "java/lang/String" "COMPACT_STRINGS" "Z" (.int 1) (zA G) U H ∧ va_Zq "jdk/internal/util/Preconditions" "SIOOBE_FORMATTER" "Ljava/util/function/BiFunction;" (zA G) U H
def zSt (G : zG) (U : State) (H : Heap) : Prop := va_X (zgb G) (zgL G) (zgx G) U H ∧ zgb G < zgB G ∧ zStr G U H ∧ va_K (zgD G) zcl (ztys G) U ∧ (∀ w ∈ zNW, va_Nw w U) ∧ va_AO "AdjectiveCoupons$State" U ∧ va_AO "AdjectiveCoupons$Line" U
def zWd (G : zG) (w : zW) (U : State) (H : Heap) : Prop := zSt G U H ∧ va_P (zgD G) zcl (ztoW G w) H ∧ H.size = zgB G + w.length ∧ w.length ≤ zlim
theorem zNW_warm {s U : State} (hW : s.WarmedH U.vm) {w : Cond} (hw : w ∈ zNW) (h : va_Nw w s) : va_Nw w U := by
  have h1 := (List.mem_filter.mp hw).2
  cases w <;> first | exact va_Nw.warmF hW h | exact va_Nw.warmM hW h | (simp [znest] at h1)
theorem zSt_move {G : zG} {s U : State} {H : Heap} {locs : List Loc} (h : zSt G s s.heap) (hS : va_S (zA G) s.heap H locs) (hU : U.heap = H) (hW : s.WarmedH U.vm) : zSt G U U.heap := by
  obtain ⟨hX, hb, ⟨hs1, hs2, hs3, hs4⟩, hK, hN, hA1, hA2⟩ := h
  have hbl : zgb G < s.heap.size := by
    obtain ⟨scr, h1, -⟩ := hX
    exact (Array.getElem?_eq_some_iff.mp h1).1
  have hq : ∀ a : Nat, a < s.heap.size → ¬ zA G a → U.heap[a]? = s.heap[a]? := fun a h1 h2 => by rw [hU]; exact hS.2.1 a h1 h2
  exact ⟨(hX.kept (hq _ hbl (Nat.not_le.mpr hb))).moved hW.alike, hb, ⟨(hs1.kept hq).moved hW.alike, hs2.warm hW, (hs3.kept hq).moved hW.alike, (hs4.kept hq).moved hW.alike⟩, hK.moved hW.alike, fun w hw => zNW_warm hW hw (hN w hw), hA1.moved hW.alike, hA2.moved hW.alike⟩
/-- what a method's body stands on -/
def zC (G : zG) (M : zPM) (p : Program) (s : State) (m : MethodId) (args : Array Value) (meth : Method) (c : Code) : Prop :=
  p.tables.exec = Jvm.exec ∧ c.code = M.2.1 ∧ c.maxLocals = M.2.2.1 ∧ (∀ w ∈ zTB, w.before args s = true) ∧ s.vm.findClass (zcn M.2.2.2.2) = some m.cls ∧ (M.1.name = "<init>" → meth.name = "<init>") ∧ zcn M.2.2.2.2 = M.1.cls ∧ zSt G s s.heap ∧ zgB G ≤ s.heap.size
theorem zgo_inj {a b : Nat} {l1 l2 : zL} {s1 s2 : List Value} {w1 w2 : zW} (h : (Sum.inl (a, l1, s1, w1) : zSR) = zgo b l2 s2 w2) : a = b ∧ l1 = l2 ∧ s1 = s2 ∧ w1 = w2 := by
  unfold zgo at h
  cases h
  exact ⟨rfl, rfl, rfl, rfl⟩
theorem zgo_no {x : Option Value ⊕ (Nat × List Value × List Value)} {a : Nat} {l1 : zL} {s1 : List Value} {w1 : zW} (h : (Sum.inr x : zSR) = zgo a l1 s1 w1) : False := by
  unfold zgo at h
  cases h
section ZSTEP
variable {p : Program} {l : Launch} {e : Env} {R : Room} {s : State} {m : MethodId} {args : Array Value} {below : List Frame} {meth : Method} {c : Code} {H : Heap} {locs : List Loc} {cells slots : Nat} {Q : State → Prop}
variable {cc : ByteArray} {pc : Nat} {real : Array Slot} {rest : List Value} {G : zG} {M : zPM}
/-- locals: a load, a store -/
theorem zld {nL : Nat} {ls : zL} (hl : zls G nL ls real) {i : Nat} {v : Value} (h : ls[i]? = some (some v)) : real[i]? = some (.val (ztr G v)) := hl.2.2.2 i v h
theorem zrv_cases {v : Value} (h : zrv v = true) : (∃ a, v = .ref a) ∨ v = .null := by
  cases v <;> first | exact Or.inl ⟨_, rfl⟩ | exact Or.inr rfl | (simp [zrv] at h)
/-- new objects, at the heap's end -/
theorem znew {own : String} {Ts : List Cond} {index ci : Nat} {q : vw_C} {w : zW} (hexec : p.tables.exec = Jvm.exec) (hb : c.code = cc) (hts : ∀ x ∈ Ts, x.before args s = true) (hq : zcl[ci]? = some q) (hin : ∀ x ∈ u_ws q.1 q.2.1 q.2.2, x ∈ Ts) (hown : s.vm.findClass own = some m.cls) (hcl : (Cond.classLink own index q.1).before args s = true) (hinst : (Cond.instantiable q.1 q.2.2).before args s = true) (hini : (Cond.initialized q.1).before args s = true)
    (hK : va_K (zgD G) zcl (ztys G) s) (hP : va_P (zgD G) zcl (ztoW G w) H) (hS : va_S (zA G) s.heap H locs) (hH : H.size = zgB G + w.length) (hcells : cells + 1 ≤ R.cells) (hslots : slots + q.2.2 ≤ R.slots) (hdg : decode cc pc = .ok (.new index, 3))
    (kk : ∀ H1 : Heap, va_P (zgD G) zcl (ztoW G (w ++ [(ci, zblank ci)])) H1 → va_S (zA G) s.heap H1 locs → H1.size = zgB G + (w ++ [(ci, zblank ci)]).length →
      W p l e R s m args below meth c H1 locs (cells + 1) (slots + q.2.2) Q (F0 m (pc + 3) real (.ref (zgB G + w.length) :: rest))) : W p l e R s m args below meth c H locs cells slots Q (F0 m pc real rest) := by
  have hKn := hK.1 ci _ hq
  have hci := zcl_lt hq
  refine W.newcK hexec hb hown hcl hinst hini rfl hdg hcells hslots hKn.2.1 hH fun H1 kC hkC e1 z1 o1 => ?_
  have hk : ∀ (k : Nat) (x : Nat × va_E), (ztoW G w)[k]? = some x → H1[x.1]? = H[x.1]? := fun k x hx => o1 x.1 (by rw [← hH]; exact (hP k x hx).lt)
  refine kk H1 ?_ ⟨Nat.le_trans hS.1 (by omega), fun x h1 h2 => (o1 x (by have := hS.1; omega)).trans (hS.2.1 x h1 h2), hS.2.2⟩ (by rw [z1, List.length_append]; show _ = zgB G + (w.length + 1); omega)
  rw [ztoW_app]
  refine (hP.kept hk).app (fun k x hx => ?_)
  have hz : k < 1 := (List.getElem?_eq_some_iff.mp hx).1
  rw [show k = 0 by omega] at hx
  cases hx
  rw [zconv_obj hci]
  have hs2 := zcl_spec2 hq
  refine ⟨_, hq, (u_born (zty ci) hts hin hKn hkC e1 (fun k hk => (hs2 k hk).1)).to (fun j hj => ?_)⟩
  have hn : znf ci = q.2.2 := (zdes_eq hq 0).2.2
  show defaultValue (zty ci j) = ((zblank ci).map (ztr G)).getD j .null
  rw [(hs2 j hj).2.1]
  unfold zblank
  rw [hn, List.map_map, List.getD_eq_getElem?_getD, List.getElem?_map, List.getElem?_range hj]
  show zdv ci j = ztr G (zdv ci j)
  unfold zdv
  split <;> rfl
theorem znewa {w : zW} {at_ : ArrayType} {ty : FieldType} {t : Nat} {cA0 : ClassId} {n : Int32} {N : Nat} (hexec : p.tables.exec = Jvm.exec) (hb : c.code = cc) (harr : (Cond.arrayClass (newarray.typeOf at_)).before args s = true) (hty : newarray.typeOf at_ = ty)
    (hfind : s.vm.findClass ("[" ++ (newarray.typeOf at_).toString) = some cA0) (hdef : defaultValue ty = .int 0) (hconv : zconv G (t, List.replicate N (.int 0)) = .inl (cA0, N, .inl (zint (List.replicate N (.int 0)))))
    (hP : va_P (zgD G) zcl (ztoW G w) H) (hS : va_S (zA G) s.heap H locs) (hH : H.size = zgB G + w.length) (hn : ¬ n < 0) (hN : n.toNatClampNeg = N) (hbytes : N * componentBytes (newarray.typeOf at_) ≤ 536870912) (hcells : cells + 1 ≤ R.cells) (hslots : slots + N ≤ R.slots) (hdg : decode cc pc = .ok (.newarray at_, 2))
    (kk : ∀ H1 : Heap, va_P (zgD G) zcl (ztoW G (w ++ [(t, List.replicate N (.int 0))])) H1 → va_S (zA G) s.heap H1 locs → H1.size = zgB G + (w ++ [(t, List.replicate N (Value.int 0))]).length →
      W p l e R s m args below meth c H1 locs (cells + 1) (slots + N) Q (F0 m (pc + 2) real (.ref (zgB G + w.length) :: rest))) : W p l e R s m args below meth c H locs cells slots Q (F0 m pc real (.int n :: rest)) := by
  refine va_newaK hexec hb harr rfl hdg rfl hn hN hbytes hcells hslots hH fun H1 cA e1 z1 o1 _ hNm => ?_
  have hcA : cA = cA0 := Option.some.inj (hNm.symm.trans hfind)
  subst hcA
  have hk : ∀ (k : Nat) (x : Nat × va_E), (ztoW G w)[k]? = some x → H1[x.1]? = H[x.1]? := fun k x hx => o1 x.1 (by rw [← hH]; exact (hP k x hx).lt)
  refine kk H1 ?_ ⟨Nat.le_trans hS.1 (by omega), fun x h1 h2 => (o1 x (by have := hS.1; omega)).trans (hS.2.1 x h1 h2), hS.2.2⟩ (by rw [z1, List.length_append]; show _ = zgB G + (w.length + 1); omega)
  rw [ztoW_app]
  refine (hP.kept hk).app (fun k x hx => ?_)
  have hz : k < 1 := (List.getElem?_eq_some_iff.mp hx).1
  rw [show k = 0 by omega] at hx
  cases hx
  rw [hconv]
  show H1[zgB G + w.length]? = some (vp_cell cA (N, .inl (zint (List.replicate N (.int 0)))))
  rw [e1, vp_cell_i, hty, hdef]
  congr 2
  funext j
  unfold zint
  rw [List.getElem?_replicate]
  split <;> rename_i h <;> first | (split at h <;> cases h <;> rfl) | rfl
theorem znewq {own C : String} {index : Nat} {w : zW} {t : Nat} {cA0 : ClassId} {n : Int32} {N : Nat} (hexec : p.tables.exec = Jvm.exec) (hb : c.code = cc) (hown : s.vm.findClass own = some m.cls) (hclink : (Cond.classLink own index C).before args s = true) (hover : va_AO C s)
    (hfind : s.vm.findClass ("[" ++ (FieldType.object C).toString) = some cA0) (hconv : zconv G (t, List.replicate N .null) = .inl (cA0, N, .inr (.inr (.inr (.inr (zref G (List.replicate N .null)))))))
    (hP : va_P (zgD G) zcl (ztoW G w) H) (hS : va_S (zA G) s.heap H locs) (hH : H.size = zgB G + w.length) (hn : ¬ n < 0) (hN : n.toNatClampNeg = N) (hbytes : N * 4 ≤ 536870912) (hcells : cells + 1 ≤ R.cells) (hslots : slots + N ≤ R.slots) (hdg : decode cc pc = .ok (.anewarray index, 3))
    (kk : ∀ H1 : Heap, va_P (zgD G) zcl (ztoW G (w ++ [(t, List.replicate N .null)])) H1 → va_S (zA G) s.heap H1 locs → H1.size = zgB G + (w ++ [(t, List.replicate N Value.null)]).length →
      W p l e R s m args below meth c H1 locs (cells + 1) (slots + N) Q (F0 m (pc + 3) real (.ref (zgB G + w.length) :: rest))) : W p l e R s m args below meth c H locs cells slots Q (F0 m pc real (.int n :: rest)) := by
  subst hN
  refine W.anew hexec hb hown hclink (va_AO.use hover) rfl hdg rfl hn hbytes hcells hslots fun cA kA comp f1 f2 f3 f4 => ?_
  have hcA : cA = cA0 := Option.some.inj (f1.symm.trans hfind)
  subst hcA
  generalize hH1 : H.push ({ cls := cA, slots := Array.replicate n.toNatClampNeg .null, vm := .none } : Cell) = H1
  have z1 : H1.size = H.size + 1 := by rw [← hH1, Array.size_push]
  have e1 : H1[H.size]? = some (arrV cA n.toNatClampNeg (fun _ => .null)) := by rw [← hH1, Array.getElem?_push_size, ← arrV_new]
  have o1 : ∀ q : Nat, q < H.size → H1[q]? = H[q]? := fun q hq => by rw [← hH1, Array.getElem?_push, if_neg (Nat.ne_of_lt hq)]
  have hk : ∀ (k : Nat) (x : Nat × va_E), (ztoW G w)[k]? = some x → H1[x.1]? = H[x.1]? := fun k x hx => o1 x.1 ((hP k x hx).lt)
  have kk2 := kk H1 ?_ ⟨Nat.le_trans hS.1 (by omega), fun x h1 h2 => (o1 x (Nat.lt_of_lt_of_le h1 hS.1)).trans (hS.2.1 x h1 h2), hS.2.2⟩ (by rw [z1, hH, List.length_append]; show _ = zgB G + (w.length + 1); omega)
  · rw [hH]
    exact kk2
  · rw [ztoW_app]
    refine (hP.kept hk).app (fun k x hx => ?_)
    have hz : k < 1 := (List.getElem?_eq_some_iff.mp hx).1
    rw [show k = 0 by omega] at hx
    cases hx
    rw [hconv]
    show H1[zgB G + w.length]? = some (vp_cell cA (n.toNatClampNeg, .inr (.inr (.inr (.inr (zref G (List.replicate n.toNatClampNeg .null)))))))
    rw [← hH, e1, vp_cell_q]
    congr 2
    funext j
    unfold zref
    rw [List.getElem?_replicate]
    split <;> rename_i h <;> first | (split at h <;> cases h <;> rfl) | rfl
end ZSTEP
-- ===== one instruction: the machine does what the small one does =====
theorem zstep_mono {L : Nat} {xs : Nat → Int32} {M : zPM} {i : Instr} {len pc : Nat} {ls : zL} {st : List Value} {w : zW} {pc2 : Nat} {ls2 : zL} {st2 : List Value} {w2 : zW} (h : zStep L xs M i len pc ls st w (.inl (pc2, ls2, st2, w2))) : w.length ≤ w2.length ∧ zsz w ≤ zsz w2 ∧ (w.length ≤ zlim → w2.length ≤ zlim) ∧ ls2.length = ls.length := by
  have same : ∀ {a : Nat} {b : zL} {t : List Value}, (Sum.inl (pc2, ls2, st2, w2) : zSR) = zgo a b t w → b.length = ls.length → w.length ≤ w2.length ∧ zsz w ≤ zsz w2 ∧ (w.length ≤ zlim → w2.length ≤ zlim) ∧ ls2.length = ls.length := by
    intro a b t h hb
    obtain ⟨-, rfl, -, rfl⟩ := zgo_inj h
    exact ⟨Nat.le_refl _, Nat.le_refl _, id, hb⟩
  have store : ∀ {a : Nat} {b : zL} {t : List Value} {o t1 t2 : Nat} {sl sl2 : List Value}, (Sum.inl (pc2, ls2, st2, w2) : zSR) = zgo a b t (w.set o (t2, sl2)) → w[o]? = some (t1, sl) → sl2.length = sl.length → b.length = ls.length → w.length ≤ w2.length ∧ zsz w ≤ zsz w2 ∧ (w.length ≤ zlim → w2.length ≤ zlim) ∧ ls2.length = ls.length := by
    intro a b t o t1 t2 sl sl2 h hw hl hb
    obtain ⟨-, rfl, -, rfl⟩ := zgo_inj h
    rw [List.length_set, zsz_set hw hl]
    exact ⟨Nat.le_refl _, Nat.le_refl _, id, hb⟩
  have push : ∀ {a : Nat} {b : zL} {t : List Value} {c : Nat × List Value}, (Sum.inl (pc2, ls2, st2, w2) : zSR) = zgo a b t (w ++ [c]) → w.length < zlim → b.length = ls.length → w.length ≤ w2.length ∧ zsz w ≤ zsz w2 ∧ (w.length ≤ zlim → w2.length ≤ zlim) ∧ ls2.length = ls.length := by
    intro a b t c h hw hb
    obtain ⟨-, rfl, -, rfl⟩ := zgo_inj h
    rw [zsz_app, List.length_append]
    exact ⟨Nat.le_add_right _ _, Nat.le_add_right _ _, fun _ => hw, hb⟩
  cases i
  case aconst_null => exact same h.2 rfl
  case aload_n k => obtain ⟨-, v, -, -, h⟩ := h; exact same h rfl
  case aload k => obtain ⟨-, v, -, -, h⟩ := h; exact same h rfl
  case iload_n k => obtain ⟨-, v, -, h⟩ := h; exact same h rfl
  case iload k => obtain ⟨-, v, -, h⟩ := h; exact same h rfl
  case lload_n k => obtain ⟨-, v, -, h⟩ := h; exact same h rfl
  case lload k => obtain ⟨-, v, -, h⟩ := h; exact same h rfl
  case iconst n => exact same h.2 rfl
  case bipush n => exact same h.2 rfl
  case sipush n => exact same h.2 rfl
  case lconst n => exact same h.2 rfl
  case ldc ix => rcases h with ⟨-, ⟨v, -, h⟩ | ⟨-, -, h⟩⟩ <;> exact same h rfl
  case ldc_w ix => obtain ⟨-, v, -, h⟩ := h; exact same h rfl
  case ldc2_w ix => obtain ⟨-, v, -, h⟩ := h; exact same h rfl
  case istore_n k => obtain ⟨-, x, rest, -, -, -, h⟩ := h; exact same h (List.length_set ..)
  case istore k => obtain ⟨-, x, rest, -, -, -, h⟩ := h; exact same h (List.length_set ..)
  case astore_n k => obtain ⟨-, x, rest, -, -, -, -, h⟩ := h; exact same h (List.length_set ..)
  case astore k => obtain ⟨-, x, rest, -, -, -, -, h⟩ := h; exact same h (List.length_set ..)
  case iinc k n => obtain ⟨-, x, -, -, h⟩ := h; exact same h (List.length_set ..)
  case iadd => obtain ⟨-, x, y, rest, -, h⟩ := h; exact same h rfl
  case isub => obtain ⟨-, x, y, rest, -, h⟩ := h; exact same h rfl
  case imul => obtain ⟨-, x, y, rest, -, h⟩ := h; exact same h rfl
  case idiv => obtain ⟨-, x, y, rest, -, -, h⟩ := h; exact same h rfl
  case irem => obtain ⟨-, x, y, rest, -, -, h⟩ := h; exact same h rfl
  case iand => obtain ⟨-, x, y, rest, -, h⟩ := h; exact same h rfl
  case ior => obtain ⟨-, x, y, rest, -, h⟩ := h; exact same h rfl
  case ixor => obtain ⟨-, x, y, rest, -, h⟩ := h; exact same h rfl
  case ishl => obtain ⟨-, x, y, rest, -, h⟩ := h; exact same h rfl
  case ishr => obtain ⟨-, x, y, rest, -, h⟩ := h; exact same h rfl
  case iushr => obtain ⟨-, x, y, rest, -, h⟩ := h; exact same h rfl
  case ineg => obtain ⟨-, x, rest, -, h⟩ := h; exact same h rfl
  case i2l => obtain ⟨-, x, rest, -, h⟩ := h; exact same h rfl
  case lcmp => obtain ⟨-, x, y, rest, -, h⟩ := h; exact same h rfl
  case dup => obtain ⟨-, v, rest, -, -, h⟩ := h; exact same h rfl
  case dup2 => obtain ⟨-, v, u, rest, -, -, -, h⟩ := h; exact same h rfl
  case pop => obtain ⟨-, v, rest, -, -, h⟩ := h; exact same h rfl
  case ifCond cd off => obtain ⟨-, x, rest, tgt, -, -, ⟨-, h⟩ | ⟨-, h⟩⟩ := h <;> exact same h rfl
  case if_icmp cd off => obtain ⟨-, x, y, rest, tgt, -, -, ⟨-, h⟩ | ⟨-, h⟩⟩ := h <;> exact same h rfl
  case ifnull off => obtain ⟨-, ⟨rest, tgt, -, -, h⟩ | ⟨a, rest, -, h⟩⟩ := h <;> exact same h rfl
  case ifnonnull off => obtain ⟨-, ⟨a, rest, tgt, -, -, h⟩ | ⟨rest, -, h⟩⟩ := h <;> exact same h rfl
  case goto off => obtain ⟨-, tgt, -, h⟩ := h; exact same h rfl
  case tableswitch d lo hi offs => obtain ⟨x, rest, tgt, -, -, h⟩ := h; exact same h rfl
  case getfield ix => obtain ⟨-, o, rest, ci, k, fs, v, -, -, -, -, h⟩ := h; exact same h rfl
  case putfield ix => obtain ⟨-, v, o, rest, ci, k, fs, -, -, ho, -, -, -, h⟩ := h; exact store h ho (List.length_set ..) rfl
  case iaload => obtain ⟨-, j, o, rest, -, ⟨sl, x, -, -, -, h⟩ | ⟨-, -, h⟩⟩ := h <;> exact same h rfl
  case iastore => obtain ⟨-, x, j, o, rest, sl, -, ho, -, h⟩ := h; exact store h ho (List.length_set ..) rfl
  case baload => obtain ⟨-, j, o, rest, sl, x, -, -, -, -, h⟩ := h; exact same h rfl
  case bastore => obtain ⟨-, x, j, o, rest, sl, -, -, ho, -, h⟩ := h; exact store h ho (List.length_set ..) rfl
  case aaload => obtain ⟨-, j, o, rest, t, sl, v, -, -, -, -, -, -, h⟩ := h; exact same h rfl
  case aastore => obtain ⟨-, q, j, o, rest, t, sl, ci, fs, -, -, -, -, ho, -, h⟩ := h; exact store h ho (List.length_set ..) rfl
  case arraylength => obtain ⟨-, o, rest, -, ⟨t, sl, -, -, -, h⟩ | ⟨-, h⟩⟩ := h <;> exact same h rfl
  case new ix => obtain ⟨-, ci, -, hw, h⟩ := h; exact push h hw rfl
  case newarray a => obtain ⟨-, n, rest, t, -, -, -, -, hw, h⟩ := h; exact push h hw rfl
  case anewarray ix => obtain ⟨-, n, rest, ci, -, -, -, -, -, hw, h⟩ := h; exact push h hw rfl
  case invokevirtual ix => obtain ⟨-, j, As, o, rest, N, -, -, -, -, -, -, h⟩ := h; cases h
  case invokespecial ix =>
    rcases h with ⟨-, ⟨o, rest, -, -, -, h⟩ | ⟨j, As, o, rest, N, -, -, -, -, -, -, -, h⟩⟩
    · exact same h rfl
    · cases h
  case invokestatic ix =>
    rcases h with ⟨-, ⟨x, y, rest, -, -, -, h⟩ | ⟨x, y, rest, -, -, -, h⟩ | ⟨j, As, rest, N, -, -, -, -, -, h⟩⟩
    · exact same h rfl
    · exact same h rfl
    · cases h
  case ireturn => obtain ⟨-, x, -, -, h⟩ := h; cases h
  case areturn => obtain ⟨-, v, n, -, -, -, h⟩ := h; cases h
  case return_ => obtain ⟨-, -, -, h⟩ := h; cases h
  all_goals exact False.elim h
