theorem zconv_20 {G : zG} {sl : List Value} : zconv G (20, sl) = .inl (zgI G, sl.length, .inl (zint sl)) := rfl
theorem zconv_21 {G : zG} {sl : List Value} : zconv G (21, sl) = .inl (zgZ G, sl.length, .inl (zint sl)) := rfl
theorem zconv_22 {G : zG} {sl : List Value} : zconv G (22, sl) = .inl (zgS G, sl.length, .inr (.inr (.inr (.inr (zref G sl))))) := rfl
theorem zconv_23 {G : zG} {sl : List Value} : zconv G (23, sl) = .inl (zgN G, sl.length, .inr (.inr (.inr (.inr (zref G sl))))) := rfl
theorem zarr_i : Cond.arrayClass (newarray.typeOf .int) ∈ zTB := zok_in (k := 108) (by decide +kernel)
theorem zarr_z : Cond.arrayClass (newarray.typeOf .boolean) ∈ zTB := zok_in (k := 1066) (by decide +kernel)
theorem zmath_init : Cond.initialized "java/lang/Math" ∈ zTB := by
  have h : (zok 82 (Cond.initialized "java/lang/Math")) = true := by decide +kernel
  exact zok_in h
theorem zpm_in {j : Nat} {N : zPM} (h : zpms[j]? = some N) : zmk N ∈ zTB := zcode_in (List.mem_of_getElem? h)
theorem zobj_code : Cond.code Lib.objectInit ⟨#[0xb1]⟩ 1 none ∈ zTB := zpm_in (j := 1) (N := (Lib.objectInit, ⟨#[0xb1]⟩, 1, none, 99)) rfl
set_option maxRecDepth 100000 in
theorem zmax_code : Cond.code Lib.Math.max.name Lib.Math.max.code 2 (some .int) ∈ zTB := zpm_in (j := 106) (N := (Lib.Math.max.name, Lib.Math.max.code, 2, some .int, 99)) rfl
set_option maxRecDepth 100000 in
theorem zmin_code : Cond.code Lib.Math.min.name Lib.Math.min.code 2 (some .int) ∈ zTB := zpm_in (j := 81) (N := (Lib.Math.min.name, Lib.Math.min.code, 2, some .int, 99)) rfl
section ZST
variable {p : Program} {l : Launch} {e : Env} {R : Room} {s : State} {m : MethodId} {args : Array Value} {below : List Frame} {meth : Method} {c : Code} {H : Heap} {locs : List Loc} {cells slots : Nat} {Q : State → Prop}
variable {cc : ByteArray} {pc : Nat} {real : Array Slot} {rest : List Value} {G : zG} {w : zW} {o : Nat} {sl : List Value}
theorem ziast (hexec : p.tables.exec = Jvm.exec) (hb : c.code = cc) (hK : va_K (zgD G) zcl (ztys G) s) (hP : va_P (zgD G) zcl (ztoW G w) H) (hS : va_S (zA G) s.heap H locs) (hH : H.size = zgB G + w.length) (ho : w[o]? = some (20, sl)) {j x : Int32} (hin : vp_in j sl.length) (hdg : decode cc pc = .ok (.iastore, 1))
    (kk : ∀ (H1 : Heap) (locs1 : List Loc), va_P (zgD G) zcl (ztoW G (w.set o (20, sl.set j.toNatClampNeg (.int x)))) H1 → va_S (zA G) s.heap H1 locs1 → H1.size = zgB G + w.length → W p l e R s m args below meth c H1 locs1 cells slots Q (F0 m (pc + 1) real rest)) : W p l e R s m args below meth c H locs cells slots Q (F0 m pc real (.int x :: .int j :: .ref (zgB G + o) :: rest)) := by
  have ha : (ztoW G w)[o]? = some (zgB G + o, .inl (zgI G, sl.length, .inl (zint sl))) := ztoW_get ho
  have hj : j.toNatClampNeg < sl.length := Nat.not_le.mp fun q => hin (Or.inr q)
  have hD := zDok (G := G) (w := w)
  refine W.iast hexec hb (hP o _ ha) ((hK.2 0 _ rfl).1 sl.length (fun j => .int (zint sl j))) (fun q => by cases q) (by show ¬ (j < 0 ∨ (arrV _ _ _).slots.size ≤ _); rw [arrV_size]; exact hin) rfl rfl hdg fun H1 e1 z oq => ?_
  refine kk H1 _ ?_ (hS.put z oq (hD.2 o _ ha)) (z.trans hH)
  rw [ztoW_set]
  refine hP.set hD ha ?_ oq
  rw [zconv_20, List.length_set, zint_set hj]
  show H1[zgB G + o]? = some (vp_cell _ _)
  rw [e1]
  rw [vp_cell_i, vp_cell_i, arrV_store]
  congr 2
  funext q
  by_cases hq : q = j.toNatClampNeg
  · subst hq
    simp [updV, upd]
  · simp [updV, upd, hq]
theorem zzast (hexec : p.tables.exec = Jvm.exec) (hb : c.code = cc) (hK : va_K (zgD G) zcl (ztys G) s) (hP : va_P (zgD G) zcl (ztoW G w) H) (hS : va_S (zA G) s.heap H locs) (hH : H.size = zgB G + w.length) (ho : w[o]? = some (21, sl)) {j x : Int32} (hin : vp_in j sl.length) (hx : x = 0 ∨ x = 1) (hdg : decode cc pc = .ok (.bastore, 1))
    (kk : ∀ (H1 : Heap) (locs1 : List Loc), va_P (zgD G) zcl (ztoW G (w.set o (21, sl.set j.toNatClampNeg (.int x)))) H1 → va_S (zA G) s.heap H1 locs1 → H1.size = zgB G + w.length → W p l e R s m args below meth c H1 locs1 cells slots Q (F0 m (pc + 1) real rest)) : W p l e R s m args below meth c H locs cells slots Q (F0 m pc real (.int x :: .int j :: .ref (zgB G + o) :: rest)) := by
  have ha : (ztoW G w)[o]? = some (zgB G + o, .inl (zgZ G, sl.length, .inl (zint sl))) := ztoW_get ho
  have hj : j.toNatClampNeg < sl.length := Nat.not_le.mp fun q => hin (Or.inr q)
  have hD := zDok (G := G) (w := w)
  have hnar : narrow .boolean (.int x) = .int x := by rcases hx with rfl | rfl <;> decide
  refine W.zast hexec hb (hP o _ ha) ((hK.2 1 _ rfl).1 sl.length (fun j => .int (zint sl j))) (fun q => by cases q) (by show ¬ (j < 0 ∨ (arrV _ _ _).slots.size ≤ _); rw [arrV_size]; exact hin) rfl rfl hdg fun H1 e1 z oq => ?_
  refine kk H1 _ ?_ (hS.put z oq (hD.2 o _ ha)) (z.trans hH)
  rw [ztoW_set]
  refine hP.set hD ha ?_ oq
  rw [zconv_21, List.length_set, zint_set hj]
  show H1[zgB G + o]? = some (vp_cell _ _)
  rw [e1, hnar]
  rw [vp_cell_i, vp_cell_i, arrV_store]
  congr 2
  funext q
  by_cases hq : q = j.toNatClampNeg
  · subst hq
    simp [updV, upd]
  · simp [updV, upd, hq]
theorem zqast {ci tk t q : Nat} {r : vw_C} {fs : List Value} {cA : ClassId} (hexec : p.tables.exec = Jvm.exec) (hb : c.code = cc) (hK : va_K (zgD G) zcl (ztys G) s) (hP : va_P (zgD G) zcl (ztoW G w) H) (hS : va_S (zA G) s.heap H locs) (hH : H.size = zgB G + w.length)
    (hc : zcl[ci]? = some r) (ht : (ztys G)[tk]? = some (cA, .object r.1)) (hci : ci < 11) (htz : t = zacl ci) (eq : zad G q = zgB G + q) (hq : w[q]? = some (ci, fs)) (ho : w[o]? = some (zacl ci, sl)) (hcv : zconv G (t, sl) = .inl (cA, sl.length, .inr (.inr (.inr (.inr (zref G sl)))))) {j : Int32} (hcv2 : zconv G (t, sl.set j.toNatClampNeg (.ref q)) = .inl (cA, (sl.set j.toNatClampNeg (.ref q)).length, .inr (.inr (.inr (.inr (zref G (sl.set j.toNatClampNeg (.ref q)))))))) (hin : vp_in j sl.length) (hdg : decode cc pc = .ok (.aastore, 1))
    (kk : ∀ (H1 : Heap) (locs1 : List Loc), va_P (zgD G) zcl (ztoW G (w.set o (zacl ci, sl.set j.toNatClampNeg (.ref q)))) H1 → va_S (zA G) s.heap H1 locs1 → H1.size = zgB G + w.length → W p l e R s m args below meth c H1 locs1 cells slots Q (F0 m (pc + 1) real rest)) : W p l e R s m args below meth c H locs cells slots Q (F0 m pc real (.ref (zgB G + q) :: .int j :: .ref (zgB G + o) :: rest)) := by
  subst htz
  have ha : (ztoW G w)[o]? = some (zgB G + o, .inl (cA, sl.length, .inr (.inr (.inr (.inr (zref G sl)))))) := by rw [ztoW_get ho, hcv]
  have hv : (ztoW G w)[q]? = some (zgB G + q, .inr (ci, fs.map (ztr G))) := by rw [ztoW_get hq, zconv_obj hci]
  have hj : j.toNatClampNeg < sl.length := Nat.not_le.mp fun q => hin (Or.inr q)
  have h0 : ¬ j < 0 := fun q => hin (Or.inl q)
  have hD := zDok (G := G) (w := w)
  obtain ⟨r', hr', cellV, g1, g2, g3, -⟩ := hP q _ hv
  have hcls := (hK.1 ci r hc).2
  obtain ⟨kA, comp, k1, k2, k3, -⟩ := (hK.2 tk _ ht).2
  have hcomp : comp = (zgD G).1 ci := Option.some.inj (k3.symm.trans hcls.1)
  subst hcomp
  obtain ⟨kC, hkC, -⟩ := hcls.2
  refine W.aast hexec hb (hP o _ ha) (fun q h => by cases h) (fun h => by cases h) k1 k2 rfl hkC ⟨h0, by show _ < (arrV _ _ _).slots.size; rw [arrV_size]; exact hj⟩ g1 (fun q h => by rw [g3] at h; cases h) (by rw [g2]; exact hkC) (by rw [g2]; exact va_assign hcls) rfl rfl hdg fun H1 e1 z oq => ?_
  refine kk H1 _ ?_ (hS.put z oq (hD.2 o _ ha)) (z.trans hH)
  rw [ztoW_set]
  refine hP.set hD ha ?_ oq
  rw [hcv2, List.length_set, zref_set hj, eq]
  show H1[zgB G + o]? = some (vp_cell _ _)
  rw [e1]
  rw [vp_cell_q, vp_cell_q, arrV_store]
  congr 2
  funext q2
  by_cases hq2 : q2 = j.toNatClampNeg
  · subst hq2
    simp [updV, va_up, va_rf]
  · simp [updV, va_up, hq2]
theorem zput {M : zPM} {ix ci k : Nat} {q : vw_C} {fs : List Value} {v : Value} (hexec : p.tables.exec = Jvm.exec) (hb : c.code = cc) (hts : ∀ w ∈ zTB, w.before args s = true) (hown : s.vm.findClass (zcn M.2.2.2.2) = some m.cls) (hcn : zcn M.2.2.2.2 = M.1.cls) (hname : M.1.name = "<init>" → meth.name = "<init>") (hNW : ∀ w ∈ zNW, va_Nw w s)
    (hK : va_K (zgD G) zcl (ztys G) s) (hP : va_P (zgD G) zcl (ztoW G w) H) (hS : va_S (zA G) s.heap H locs) (hH : H.size = zgB G + w.length)
    (hq : zcl[ci]? = some q) (hkq : k < q.2.2) (hlk : Cond.fieldLink (zcn M.2.2.2.2) ix q.1 (q.2.1 k).2.1 (q.2.1 k).2.2.1 ∈ zTB ∨ ∃ ho, Cond.fieldLinkNest (zcn M.2.2.2.2) ix q.1 (q.2.1 k).2.1 (q.2.1 k).2.2.1 ho ∈ zNW) (ho : w[o]? = some (ci, fs)) (hk : k < fs.length) (hfit : zfit ci k v = true) (hfin : zfin ci k = true → M.1.name = "<init>" ∧ zcn ci = M.1.cls) (hdg : decode cc pc = .ok (.putfield ix, 3))
    (kk : ∀ (H1 : Heap) (locs1 : List Loc), va_P (zgD G) zcl (ztoW G (w.set o (ci, fs.set k v))) H1 → va_S (zA G) s.heap H1 locs1 → H1.size = zgB G + w.length → W p l e R s m args below meth c H1 locs1 cells slots Q (F0 m (pc + 3) real rest)) : W p l e R s m args below meth c H locs cells slots Q (F0 m pc real (ztr G v :: .ref (zgB G + o) :: rest)) := by
  have hci := zcl_lt hq
  obtain ⟨e1, -, -, e4, e5⟩ := zcl_spec hq
  have s2 := zcl_spec2 hq
  obtain ⟨d1, d2, -⟩ := zdes_eq hq k
  have he : (ztoW G w)[o]? = some (zgB G + o, .inr (ci, fs.map (ztr G))) := by rw [ztoW_get ho, zconv_obj hci]
  have hD := zDok (G := G) (w := w)
  have hd0 : parseFieldDescriptor (q.2.1 k).2.2.1 = some (zty ci k) := (s2 k hkq).1
  have hnf : narrow (zty ci k) (ztr G v) = ztr G v ∧ fits (zty ci k) (ztr G v) = true := by
    unfold zfit at hfit
    by_cases hI : zdes ci k = "I"
    · rw [if_pos hI] at hfit
      rw [(s2 k hkq).2.2.1 hI]
      cases v <;> first | exact ⟨rfl, rfl⟩ | (simp at hfit)
    · rw [if_neg hI] at hfit
      rcases (s2 k hkq).2.2.2.1 hI with ⟨n, hn⟩ | ⟨n, hn⟩ <;> rw [hn] <;> rcases zrv_cases hfit with ⟨a, rfl⟩ | rfl <;> exact ⟨rfl, rfl⟩
  have hap := va_apart (own := zcn M.2.2.2.2) hts e4 (zty ci) (fun k hk => (s2 k hk).1) (fun a ha b hb hab => (s2 b hb).2.2.2.2 a ha hab) hK hq
  have hset : (fs.set k v).map (ztr G) = (fs.map (ztr G)).set k (ztr G v) := List.map_set
  have hl : k < (fs.map (ztr G)).length := by rw [List.length_map]; exact hk
  have hsame : ∀ x, s.fieldFound? (q.2.1 k).1 (q.2.1 k).2.1 (q.2.1 k).2.2.1 = some x → s.fieldFound? q.1 (q.2.1 k).2.1 (q.2.1 k).2.2.1 = some x := fun x hx2 => by rw [← hx2]; exact congrArg (fun z => s.fieldFound? z _ _) (e5 k hkq).symm
  obtain ⟨r, h1, cell, q1, q2, q3, q4⟩ := hP o _ he
  have hr : r = q := Option.some.inj (h1.symm.trans hq)
  subst hr
  obtain ⟨hS1, hfc, kC, hkC, hkind⟩ := hK.1 ci _ hq
  obtain ⟨cf, kf, fi, f, hi, hsl⟩ := hS1 k hkq
  have hst := (u_facts hfc hkC (u_lays hts e4 hkq) hi).1
  have fin : ∀ H' : Heap, H'[zgB G + o]? = some (cell.setSlot f.slot (ztr G v)) → H'.size = H.size → (∀ x, x ≠ zgB G + o → H'[x]? = H[x]?) → W p l e R s m args below meth c H' (locs ++ [⟨zgB G + o, f.slot⟩]) cells slots Q (F0 m (pc + 3) real rest) := by
    intro H' e1' e2 e3
    rw [hsl] at e1' ⊢
    refine kk H' _ ?_ (hS.put e2 e3 (hD.2 o _ he)) (e2.trans hH)
    rw [ztoW_set, zconv_obj hci, hset]
    exact hP.set hD he ⟨_, hq, t_OB.to (V := updV (vp_V (fs.map (ztr G))) k (ztr G v)) ⟨_, e1', q2, q3, t_set q4 hap hkq (ztr G v)⟩ (fun j _ => vp_updV_set hl (ztr G v) j)⟩ e3
  by_cases hf : zfin ci k = true
  · obtain ⟨hin2, hcc⟩ := hfin hf
    have hlay := hts _ (e4 _ (u_in_lay hkq))
    unfold u_lay at hlay
    rw [if_pos (by rw [← d2]; exact hf)] at hlay
    have hcf : m.cls = cf := by
      obtain ⟨_, _, c', _, _, _, -, -, hf', -, -, -, hown2, -⟩ := Cond.laysFinal_spec hlay
      have e1' : c' = cf := by have := hi.symm.trans hf'; simp at this; exact this.1.symm
      rw [e5 k hkq, e1, hcc, ← hcn] at hown2
      rw [← e1']; exact Option.some.inj (hown.symm.trans hown2)
    have h6 := u_fits hfc hkC hkind (Or.inr hlay) hi hd0 hnf.1 hnf.2
    rcases hlk with hlk | ⟨host, hlk⟩
    · exact W.putFinK hexec hb hown (hts _ hlk) (hsame _ hi) hst hcf (hname hin2) (by rw [q2]; exact h6) q1 q3 (by rw [hsl]; exact k2_hasslot (q4 k hkq)) rfl rfl hdg fin
    · refine va_Wputf hexec hb hown (va_Nw.use rfl (hNW _ hlk)) (hsame _ hi) hst (Or.inr ⟨hcf, hname hin2⟩) q1 (by rw [q3]; exact fun h => by cases h) (by rw [hsl]; exact k2_hasslot (q4 k hkq)) h6.1 (by rw [q2, q3]; exact h6.2) rfl rfl hdg (fin _ ?_ ?_ ?_)
      · have := (Array.getElem?_eq_some_iff.mp q1).1
        simp [Array.getElem?_setIfInBounds, this]
      · simp
      · intro x hx
        simp [Array.getElem?_setIfInBounds, Ne.symm hx]
  · have hlay := hts _ (e4 _ (u_in_lay hkq))
    unfold u_lay at hlay
    rw [if_neg (by rw [← d2]; exact hf)] at hlay
    have h6 := u_store hfc hkC hkind hlay hi hd0 hnf.1 hnf.2
    rcases hlk with hlk | ⟨host, hlk⟩
    · exact W.putK hexec hb (f := f) ⟨hown, hts _ hlk, ⟨_, _, _, hsame _ hi⟩, hst⟩ (by rw [q2]; exact h6) q1 q3 (by rw [hsl]; exact k2_hasslot (q4 k hkq)) rfl rfl hdg fin
    · exact va_WputK hexec hb (f := f) hown (va_Nw.use rfl (hNW _ hlk)) (hsame _ hi) hst (by rw [q2]; exact h6) q1 q3 (by rw [hsl]; exact k2_hasslot (q4 k hkq)) rfl rfl hdg fin
end ZST
