section ZSIM
variable {p : Program} {l : Launch} {e : Env} {R : Room} {s : State} {m : MethodId} {args : Array Value} {below : List Frame} {meth : Method} {c : Code} {Q : State → Prop}
variable {G : zG} {M : zPM}
set_option maxHeartbeats 4000000 in
theorem zgo_sound {n0 s0 : Nat} (C : zC G M p s m args meth c) (hfr : 1 ≤ R.frames) (hlo : 35 ≤ R.locals)
    {i : Instr} {len pc : Nat} {ls : zL} {st : List Value} {w : zW} {pc2 : Nat} {ls2 : zL} {st2 : List Value} {w2 : zW} (hd : decode M.2.1 pc = .ok (i, len)) (h : zStep (zgL G) (zgx G) M i len pc ls st w (.inl (pc2, ls2, st2, w2)))
    (hn : n0 ≤ w.length) (hz : s0 ≤ zsz w) (hcel : w2.length - n0 ≤ R.cells) (hslo : zsz w2 - s0 ≤ R.slots) (hlim : w.length ≤ zlim)
    {H : Heap} {locs : List Loc} {real : Array Slot} (hP : va_P (zgD G) zcl (ztoW G w) H) (hS : va_S (zA G) s.heap H locs) (hH : H.size = zgB G + w.length) (hl : zls G M.2.2.1 ls real)
    (kk : ∀ (H2 : Heap) (locs2 : List Loc) (real2 : Array Slot), va_P (zgD G) zcl (ztoW G w2) H2 → va_S (zA G) s.heap H2 locs2 → H2.size = zgB G + w2.length → zls G M.2.2.1 ls2 real2 → W p l e R s m args below meth c H2 locs2 (w2.length - n0) (zsz w2 - s0) Q (F0 m pc2 real2 (st2.map (ztr G)))) :
    W p l e R s m args below meth c H locs (w.length - n0) (zsz w - s0) Q (F0 m pc real (st.map (ztr G))) := by
  obtain ⟨hx, hb, hml, hts, hown, hname, hcn, hSt, hB⟩ := C
  obtain ⟨hX, hbB, hStr, hK, hNW, hAO1, hAO2⟩ := hSt
  have hbl : zgb G < s.heap.size := by
    obtain ⟨scr, h1, -⟩ := hX
    exact (Array.getElem?_eq_some_iff.mp h1).1
  have hbA : ¬ zA G (zgb G) := Nat.not_le.mpr hbB
  have hD := zDok (G := G) (w := w)
  have hA : ∀ q, s.heap.size ≤ q → zA G q := fun q h => Nat.le_trans hB h
  cases i
  case aconst_null =>
    obtain ⟨rfl, h⟩ := h
    obtain ⟨rfl, rfl, rfl, rfl⟩ := zgo_inj h
    exact lv_null hx hb hd (kk _ _ _ hP hS hH hl)
  case aload_n k =>
    obtain ⟨rfl, v, hv, hr, h⟩ := h
    obtain ⟨rfl, rfl, rfl, rfl⟩ := zgo_inj h
    have hv2 := zld hl hv
    rcases zrv_cases hr with ⟨a, rfl⟩ | rfl
    · exact lv_aload_n hx hb hd rfl hv2 (kk _ _ _ hP hS hH hl)
    · exact lv_aload_nN hx hb hd rfl hv2 (kk _ _ _ hP hS hH hl)
  case aload k =>
    obtain ⟨rfl, v, hv, hr, h⟩ := h
    obtain ⟨rfl, rfl, rfl, rfl⟩ := zgo_inj h
    have hv2 := zld hl hv
    rcases zrv_cases hr with ⟨a, rfl⟩ | rfl
    · exact lv_aload hx hb hd hv2 (kk _ _ _ hP hS hH hl)
    · exact lv_aloadN hx hb hd hv2 (kk _ _ _ hP hS hH hl)
  case iload_n k =>
    obtain ⟨rfl, x, hv, h⟩ := h
    obtain ⟨rfl, rfl, rfl, rfl⟩ := zgo_inj h
    exact lv_iload_n hx hb hd rfl (zld hl hv) (kk _ _ _ hP hS hH hl)
  case iload k =>
    obtain ⟨rfl, x, hv, h⟩ := h
    obtain ⟨rfl, rfl, rfl, rfl⟩ := zgo_inj h
    exact lv_iload hx hb hd (zld hl hv) (kk _ _ _ hP hS hH hl)
  case lload_n k =>
    obtain ⟨rfl, x, hv, h⟩ := h
    obtain ⟨rfl, rfl, rfl, rfl⟩ := zgo_inj h
    exact lv_lload_n hx hb hd rfl (zld hl hv) (kk _ _ _ hP hS hH hl)
  case lload k =>
    obtain ⟨rfl, x, hv, h⟩ := h
    obtain ⟨rfl, rfl, rfl, rfl⟩ := zgo_inj h
    exact lv_lload hx hb hd (zld hl hv) (kk _ _ _ hP hS hH hl)
  case iconst n =>
    obtain ⟨rfl, h⟩ := h
    obtain ⟨rfl, rfl, rfl, rfl⟩ := zgo_inj h
    exact lv_iconst hx hb hd rfl (kk _ _ _ hP hS hH hl)
  case bipush n =>
    obtain ⟨rfl, h⟩ := h
    obtain ⟨rfl, rfl, rfl, rfl⟩ := zgo_inj h
    exact lv_bipush hx hb hd rfl (kk _ _ _ hP hS hH hl)
  case sipush n =>
    obtain ⟨rfl, h⟩ := h
    obtain ⟨rfl, rfl, rfl, rfl⟩ := zgo_inj h
    exact lv_sipush hx hb hd rfl (kk _ _ _ hP hS hH hl)
  case lconst n =>
    obtain ⟨rfl, h⟩ := h
    obtain ⟨rfl, rfl, rfl, rfl⟩ := zgo_inj h
    exact lv_lconst hx hb hd rfl (kk _ _ _ hP hS hH hl)
  case ldc ix =>
    obtain ⟨rfl, ⟨v, hv, h⟩ | ⟨ho, rfl, h⟩⟩ := h
    · obtain ⟨rfl, rfl, rfl, rfl⟩ := zgo_inj h
      exact lv_ldc hx hb hown (hts _ (zix_spec hv)) hd (kk _ _ _ hP hS hH hl)
    · obtain ⟨rfl, rfl, rfl, rfl⟩ := zgo_inj h
      rw [ho] at hown
      have ea : zad G zSTR = zgs G := rfl
      have k1 := kk _ _ _ hP hS hH hl
      have k2 : W p l e R s m args below meth c H locs (w2.length - n0) (zsz w2 - s0) Q (F0 m (pc + 2) real (.ref (zgs G) :: st.map (ztr G))) := by rw [← ea]; exact k1
      exact va_ldcS hx hb (own := "AdjectiveCoupons$Text") (tx := ztx) hown hStr.2.1 hd k2
  case ldc_w ix =>
    obtain ⟨rfl, v, hv, h⟩ := h
    obtain ⟨rfl, rfl, rfl, rfl⟩ := zgo_inj h
    exact lv_ldcw hx hb hown (hts _ (zix_spec hv)) hd (kk _ _ _ hP hS hH hl)
  case ldc2_w ix =>
    obtain ⟨rfl, v, hv, h⟩ := h
    obtain ⟨rfl, rfl, rfl, rfl⟩ := zgo_inj h
    exact lv_ldc2 hx hb hown (hts _ (zlx_spec hv)) hd (kk _ _ _ hP hS hH hl)
  case istore_n k =>
    obtain ⟨rfl, x, rest, rfl, hnl, hk, h⟩ := h
    obtain ⟨rfl, rfl, rfl, rfl⟩ := zgo_inj h
    have hk2 : (k : Nat) < M.2.2.1 := by rw [← hl.1]; exact hk
    exact lv_istore_n hx hb hd rfl (zls_has hl) hk2 rfl (fun r2 h2 => kk _ _ _ hP hS hH (zls_set hl hnl hk2 h2))
  case istore k =>
    obtain ⟨rfl, x, rest, rfl, hnl, hk, h⟩ := h
    obtain ⟨rfl, rfl, rfl, rfl⟩ := zgo_inj h
    have hk2 : k < M.2.2.1 := by rw [← hl.1]; exact hk
    exact lv_istore hx hb hd (zls_has hl) hk2 rfl (fun r2 h2 => kk _ _ _ hP hS hH (zls_set hl hnl hk2 h2))
  case astore_n k =>
    obtain ⟨rfl, v, rest, rfl, hr, hnl, hk, h⟩ := h
    obtain ⟨rfl, rfl, rfl, rfl⟩ := zgo_inj h
    have hk2 : (k : Nat) < M.2.2.1 := by rw [← hl.1]; exact hk
    rcases zrv_cases hr with ⟨a, rfl⟩ | rfl
    · exact lv_astore_n hx hb hd rfl (zls_has hl) hk2 rfl (fun r2 h2 => kk _ _ _ hP hS hH (zls_set hl hnl hk2 h2))
    · exact lv_astore_nN hx hb hd rfl (zls_has hl) hk2 rfl (fun r2 h2 => kk _ _ _ hP hS hH (zls_set hl hnl hk2 h2))
  case astore k =>
    obtain ⟨rfl, v, rest, rfl, hr, hnl, hk, h⟩ := h
    obtain ⟨rfl, rfl, rfl, rfl⟩ := zgo_inj h
    have hk2 : k < M.2.2.1 := by rw [← hl.1]; exact hk
    rcases zrv_cases hr with ⟨a, rfl⟩ | rfl
    · exact lv_astore hx hb hd (zls_has hl) hk2 rfl (fun r2 h2 => kk _ _ _ hP hS hH (zls_set hl hnl hk2 h2))
    · exact lv_astoreN hx hb hd (zls_has hl) hk2 rfl (fun r2 h2 => kk _ _ _ hP hS hH (zls_set hl hnl hk2 h2))
  case iinc k n =>
    obtain ⟨rfl, x, hv, hnl, h⟩ := h
    obtain ⟨rfl, rfl, rfl, rfl⟩ := zgo_inj h
    have hk2 : k < M.2.2.1 := by rw [← hl.1]; exact (List.getElem?_eq_some_iff.mp hv).1
    obtain ⟨j, hj⟩ := zls_idx (G := G) hv
    exact lv_iinc hx hb hd (zls_has hl) hj rfl hk2 rfl (fun r2 h2 => kk _ _ _ hP hS hH (zls_set hl hnl hk2 h2))
  case iadd =>
    obtain ⟨rfl, x, y, rest, rfl, h⟩ := h
    obtain ⟨rfl, rfl, rfl, rfl⟩ := zgo_inj h
    exact lv_iadd hx hb hd (kk _ _ _ hP hS hH hl)
  case isub =>
    obtain ⟨rfl, x, y, rest, rfl, h⟩ := h
    obtain ⟨rfl, rfl, rfl, rfl⟩ := zgo_inj h
    exact lv_isub hx hb hd (kk _ _ _ hP hS hH hl)
  case imul =>
    obtain ⟨rfl, x, y, rest, rfl, h⟩ := h
    obtain ⟨rfl, rfl, rfl, rfl⟩ := zgo_inj h
    exact lv_imul hx hb hd (kk _ _ _ hP hS hH hl)
  case idiv =>
    obtain ⟨rfl, x, y, rest, rfl, hy, h⟩ := h
    obtain ⟨rfl, rfl, rfl, rfl⟩ := zgo_inj h
    exact lv_idiv hx hb hd hy (kk _ _ _ hP hS hH hl)
  case irem =>
    obtain ⟨rfl, x, y, rest, rfl, hy, h⟩ := h
    obtain ⟨rfl, rfl, rfl, rfl⟩ := zgo_inj h
    exact lv_irem hx hb hd hy (kk _ _ _ hP hS hH hl)
  case iand =>
    obtain ⟨rfl, x, y, rest, rfl, h⟩ := h
    obtain ⟨rfl, rfl, rfl, rfl⟩ := zgo_inj h
    exact lv_iand hx hb hd (kk _ _ _ hP hS hH hl)
  case ior =>
    obtain ⟨rfl, x, y, rest, rfl, h⟩ := h
    obtain ⟨rfl, rfl, rfl, rfl⟩ := zgo_inj h
    exact lv_ior hx hb hd (kk _ _ _ hP hS hH hl)
  case ixor =>
    obtain ⟨rfl, x, y, rest, rfl, h⟩ := h
    obtain ⟨rfl, rfl, rfl, rfl⟩ := zgo_inj h
    exact lv_ixor hx hb hd (kk _ _ _ hP hS hH hl)
  case ishl =>
    obtain ⟨rfl, x, y, rest, rfl, h⟩ := h
    obtain ⟨rfl, rfl, rfl, rfl⟩ := zgo_inj h
    exact lv_ishl hx hb hd (kk _ _ _ hP hS hH hl)
  case ishr =>
    obtain ⟨rfl, x, y, rest, rfl, h⟩ := h
    obtain ⟨rfl, rfl, rfl, rfl⟩ := zgo_inj h
    exact lv_ishr hx hb hd (kk _ _ _ hP hS hH hl)
  case iushr =>
    obtain ⟨rfl, x, y, rest, rfl, h⟩ := h
    obtain ⟨rfl, rfl, rfl, rfl⟩ := zgo_inj h
    exact lv_iushr hx hb hd rfl (kk _ _ _ hP hS hH hl)
  case ineg =>
    obtain ⟨rfl, x, rest, rfl, h⟩ := h
    obtain ⟨rfl, rfl, rfl, rfl⟩ := zgo_inj h
    exact lv_ineg hx hb hd (kk _ _ _ hP hS hH hl)
  case i2l =>
    obtain ⟨rfl, x, rest, rfl, h⟩ := h
    obtain ⟨rfl, rfl, rfl, rfl⟩ := zgo_inj h
    exact lv_i2l hx hb hd rfl (kk _ _ _ hP hS hH hl)
  case lcmp =>
    obtain ⟨rfl, x, y, rest, rfl, h⟩ := h
    obtain ⟨rfl, rfl, rfl, rfl⟩ := zgo_inj h
    exact W.lcmp hx hb hd (kk _ _ _ hP hS hH hl)
  case dup =>
    obtain ⟨rfl, v, rest, rfl, hv, h⟩ := h
    obtain ⟨rfl, rfl, rfl, rfl⟩ := zgo_inj h
    exact lv_dup hx hb hd ((ztr_cat G v).trans hv) (kk _ _ _ hP hS hH hl)
  case dup2 =>
    obtain ⟨rfl, v, u, rest, rfl, hv, hu, h⟩ := h
    obtain ⟨rfl, rfl, rfl, rfl⟩ := zgo_inj h
    exact lv_dup2_11 hx hb hd ((ztr_cat G v).trans hv) ((ztr_cat G u).trans hu) (kk _ _ _ hP hS hH hl)
  case pop =>
    obtain ⟨rfl, v, rest, rfl, hv, h⟩ := h
    obtain ⟨rfl, rfl, rfl, rfl⟩ := zgo_inj h
    exact lv_pop hx hb hd ((ztr_cat G v).trans hv) (kk _ _ _ hP hS hH hl)
  case ifCond cd off =>
    obtain ⟨rfl, x, rest, tgt, rfl, ht, ⟨hc, h⟩ | ⟨hc, h⟩⟩ := h
    · obtain ⟨rfl, rfl, rfl, rfl⟩ := zgo_inj h
      have k1 := kk _ _ _ hP hS hH hl
      cases cd
      · exact lv_if_eq hx hb hd ht (fun _ => k1) (fun h => absurd hc h)
      · exact lv_if_ne hx hb hd ht (fun _ => k1) (fun h => absurd h hc)
      · exact lv_if_lt hx hb hd ht (fun _ => k1) (fun h => absurd hc h)
      · exact lv_if_ge hx hb hd ht (fun _ => k1) (fun h => absurd hc h)
      · exact lv_if_gt hx hb hd ht (fun _ => k1) (fun h => absurd hc h)
      · exact lv_if_le hx hb hd ht (fun _ => k1) (fun h => absurd hc h)
    · obtain ⟨rfl, rfl, rfl, rfl⟩ := zgo_inj h
      have k1 := kk _ _ _ hP hS hH hl
      cases cd
      · exact lv_if_eq hx hb hd ht (fun h => absurd h hc) (fun _ => k1)
      · exact lv_if_ne hx hb hd ht (fun h => absurd h hc) (fun _ => k1)
      · exact lv_if_lt hx hb hd ht (fun h => absurd h hc) (fun _ => k1)
      · exact lv_if_ge hx hb hd ht (fun h => absurd h hc) (fun _ => k1)
      · exact lv_if_gt hx hb hd ht (fun h => absurd h hc) (fun _ => k1)
      · exact lv_if_le hx hb hd ht (fun h => absurd h hc) (fun _ => k1)
  case if_icmp cd off =>
    obtain ⟨rfl, x, y, rest, tgt, rfl, ht, ⟨hc, h⟩ | ⟨hc, h⟩⟩ := h
    · obtain ⟨rfl, rfl, rfl, rfl⟩ := zgo_inj h
      have k1 := kk _ _ _ hP hS hH hl
      cases cd
      · exact lv_icmp_eq hx hb hd ht (fun _ => k1) (fun h => absurd hc h)
      · exact lv_icmp_ne hx hb hd ht (fun _ => k1) (fun h => absurd h hc)
      · exact lv_icmp_lt hx hb hd ht (fun _ => k1) (fun h => absurd hc h)
      · exact lv_icmp_ge hx hb hd ht (fun _ => k1) (fun h => absurd hc h)
      · exact lv_icmp_gt hx hb hd ht (fun _ => k1) (fun h => absurd hc h)
      · exact lv_icmp_le hx hb hd ht (fun _ => k1) (fun h => absurd hc h)
    · obtain ⟨rfl, rfl, rfl, rfl⟩ := zgo_inj h
      have k1 := kk _ _ _ hP hS hH hl
      cases cd
      · exact lv_icmp_eq hx hb hd ht (fun h => absurd h hc) (fun _ => k1)
      · exact lv_icmp_ne hx hb hd ht (fun h => absurd h hc) (fun _ => k1)
      · exact lv_icmp_lt hx hb hd ht (fun h => absurd h hc) (fun _ => k1)
      · exact lv_icmp_ge hx hb hd ht (fun h => absurd h hc) (fun _ => k1)
      · exact lv_icmp_gt hx hb hd ht (fun h => absurd h hc) (fun _ => k1)
      · exact lv_icmp_le hx hb hd ht (fun h => absurd h hc) (fun _ => k1)
  case ifnull off =>
    obtain ⟨rfl, ⟨rest, tgt, rfl, ht, h⟩ | ⟨a, rest, rfl, h⟩⟩ := h
    · obtain ⟨rfl, rfl, rfl, rfl⟩ := zgo_inj h
      exact lv_ifnullN hx hb hd ht (kk _ _ _ hP hS hH hl)
    · obtain ⟨rfl, rfl, rfl, rfl⟩ := zgo_inj h
      exact lv_ifnull hx hb hd (kk _ _ _ hP hS hH hl)
  case ifnonnull off =>
    obtain ⟨rfl, ⟨a, rest, tgt, rfl, ht, h⟩ | ⟨rest, rfl, h⟩⟩ := h
    · obtain ⟨rfl, rfl, rfl, rfl⟩ := zgo_inj h
      exact lv_ifnonnull hx hb hd ht (kk _ _ _ hP hS hH hl)
    · obtain ⟨rfl, rfl, rfl, rfl⟩ := zgo_inj h
      exact lv_ifnonnullN hx hb hd (kk _ _ _ hP hS hH hl)
  case goto off =>
    obtain ⟨rfl, tgt, ht, h⟩ := h
    obtain ⟨rfl, rfl, rfl, rfl⟩ := zgo_inj h
    exact lv_goto hx hb hd ht (kk _ _ _ hP hS hH hl)
  case tableswitch d lo hi offs =>
    obtain ⟨x, rest, tgt, rfl, ⟨ho, ht⟩ | ⟨h1, h2, off, ho, ht⟩, h⟩ := h
    · obtain ⟨rfl, rfl, rfl, rfl⟩ := zgo_inj h
      exact lv_tableOut hx hb hd ho ht (kk _ _ _ hP hS hH hl)
    · obtain ⟨rfl, rfl, rfl, rfl⟩ := zgo_inj h
      exact lv_tableIn hx hb hd h1 h2 ho ht (kk _ _ _ hP hS hH hl)
  case getfield ix =>
    obtain ⟨rfl, o, rest, ci, k, fs, v, rfl, hf, ho, hv, h⟩ := h
    obtain ⟨rfl, rfl, rfl, rfl⟩ := zgo_inj h
    obtain ⟨q, hq, hkq, hlk⟩ := zfx_spec hf
    obtain ⟨e1, e2, e3, e4, e5⟩ := zcl_spec hq
    have hci := zcl_lt hq
    have ea : zad G o = zgB G + o := zad_own ho hlim
    have hw : (ztoW G w2)[o]? = some (zgB G + o, .inr (ci, fs.map (ztr G))) := by rw [ztoW_get ho, zconv_obj hci]
    have hv2 : (fs.map (ztr G))[k]? = some (ztr G v) := by rw [List.getElem?_map, hv]; rfl
    have k1 := kk _ _ _ hP hS hH hl
    show W p l e R s m args below meth c H locs (w2.length - n0) (zsz w2 - s0) Q (F0 m pc real (.ref (zad G o) :: rest.map (ztr G)))
    rw [ea]
    obtain ⟨qC, qT, qN⟩ := q
    rcases hlk with hlk | ⟨host, hlk⟩
    · exact va_get hx hb hts e4 hown hK hP o hw hq k hkq (hts _ hlk) (fun x hx2 => by rw [← hx2]; exact congrArg (fun z => s.fieldFound? z _ _) (e5 k hkq).symm) hv2 hd k1
    · exact va_getN hx hb hts e4 hown hK hP o hw hq k hkq (va_Nw.use rfl (hNW _ hlk)) (fun x hx2 => by rw [← hx2]; exact congrArg (fun z => s.fieldFound? z _ _) (e5 k hkq).symm) hv2 hd k1
  case putfield ix =>
    obtain ⟨rfl, v, o, rest, ci, k, fs, rfl, hf, ho, hk, hfit, hfin, h⟩ := h
    obtain ⟨rfl, rfl, rfl, rfl⟩ := zgo_inj h
    obtain ⟨q, hq, hkq, hlk⟩ := zfx_spec hf
    have ea : zad G o = zgB G + o := zad_own ho hlim
    rw [List.length_set, zsz_set ho (List.length_set ..)] at kk
    show W p l e R s m args below meth c H locs (w.length - n0) (zsz w - s0) Q (F0 m pc real (ztr G v :: .ref (zad G o) :: st2.map (ztr G)))
    rw [ea]
    exact zput hx hb hts hown hcn hname hNW hK hP hS hH hq hkq hlk ho hk hfit hfin hd (fun H1 locs1 hP1 hS1 hH1 => kk H1 locs1 real hP1 hS1 hH1 hl)
  case iaload =>
    obtain ⟨rfl, j, o, rest, rfl, ⟨sl, x, ho, hin, hv, h⟩ | ⟨rfl, hin, h⟩⟩ := h
    · obtain ⟨rfl, rfl, rfl, rfl⟩ := zgo_inj h
      have ea : zad G o = zgB G + o := zad_own ho hlim
      have hw : (ztoW G w2)[o]? = some (zgB G + o, .inl (zgI G, sl.length, .inl (zint sl))) := ztoW_get ho
      have k1 := kk _ _ _ hP hS hH hl
      show W p l e R s m args below meth c H locs (w2.length - n0) (zsz w2 - s0) Q (F0 m pc real (.int j :: .ref (zad G o) :: rest.map (ztr G)))
      rw [ea]
      refine va_iald hx hb hK hP o 0 hw rfl hin hd ?_
      rw [zint_get hv]
      exact k1
    · obtain ⟨rfl, rfl, rfl, rfl⟩ := zgo_inj h
      exact va_sld hx hb hX hbl hbA hS hin hd (kk _ _ _ hP hS hH hl)
  case iastore =>
    obtain ⟨rfl, x, j, o, rest, sl, rfl, ho, hin, h⟩ := h
    obtain ⟨rfl, rfl, rfl, rfl⟩ := zgo_inj h
    have ea : zad G o = zgB G + o := zad_own ho hlim
    rw [List.length_set, zsz_set ho (List.length_set ..)] at kk
    show W p l e R s m args below meth c H locs (w.length - n0) (zsz w - s0) Q (F0 m pc real (.int x :: .int j :: .ref (zad G o) :: st2.map (ztr G)))
    rw [ea]
    exact ziast hx hb hK hP hS hH ho hin hd (fun H1 locs1 hP1 hS1 hH1 => kk H1 locs1 real hP1 hS1 hH1 hl)
  case baload =>
    obtain ⟨rfl, j, o, rest, sl, x, rfl, ho, hin, hv, h⟩ := h
    obtain ⟨rfl, rfl, rfl, rfl⟩ := zgo_inj h
    have ea : zad G o = zgB G + o := zad_own ho hlim
    have hw : (ztoW G w2)[o]? = some (zgB G + o, .inl (zgZ G, sl.length, .inl (zint sl))) := ztoW_get ho
    have k1 := kk _ _ _ hP hS hH hl
    show W p l e R s m args below meth c H locs (w2.length - n0) (zsz w2 - s0) Q (F0 m pc real (.int j :: .ref (zad G o) :: rest.map (ztr G)))
    rw [ea]
    refine va_zald hx hb hK hP o 1 hw rfl hin hd ?_
    rw [zint_get hv]
    exact k1
  case bastore =>
    obtain ⟨rfl, x, j, o, rest, sl, rfl, hx01, ho, hin, h⟩ := h
    obtain ⟨rfl, rfl, rfl, rfl⟩ := zgo_inj h
    have ea : zad G o = zgB G + o := zad_own ho hlim
    rw [List.length_set, zsz_set ho (List.length_set ..)] at kk
    show W p l e R s m args below meth c H locs (w.length - n0) (zsz w - s0) Q (F0 m pc real (.int x :: .int j :: .ref (zad G o) :: st2.map (ztr G)))
    rw [ea]
    exact zzast hx hb hK hP hS hH ho hin hx01 hd (fun H1 locs1 hP1 hS1 hH1 => kk H1 locs1 real hP1 hS1 hH1 hl)
  case aaload =>
    obtain ⟨rfl, j, o, rest, t, sl, v, rfl, ht, ho, hin, hv, hr, h⟩ := h
    obtain ⟨rfl, rfl, rfl, rfl⟩ := zgo_inj h
    have ea : zad G o = zgB G + o := zad_own ho hlim
    have k1 := kk _ _ _ hP hS hH hl
    show W p l e R s m args below meth c H locs (w2.length - n0) (zsz w2 - s0) Q (F0 m pc real (.int j :: .ref (zad G o) :: rest.map (ztr G)))
    rw [ea]
    rcases ht with rfl | rfl
    · have hw : (ztoW G w2)[o]? = some (zgB G + o, .inl (zgS G, sl.length, .inr (.inr (.inr (.inr (zref G sl)))))) := ztoW_get ho
      refine va_aldq hx hb hK hP o 2 hw rfl hin hd ?_
      rw [zref_get hv hr]
      exact k1
    · have hw : (ztoW G w2)[o]? = some (zgB G + o, .inl (zgN G, sl.length, .inr (.inr (.inr (.inr (zref G sl)))))) := ztoW_get ho
      refine va_aldq hx hb hK hP o 3 hw rfl hin hd ?_
      rw [zref_get hv hr]
      exact k1
  case aastore =>
    obtain ⟨rfl, q, j, o, rest, t, sl, ci, fs, rfl, hci, rfl, hq, ho, hin, h⟩ := h
    obtain ⟨rfl, rfl, rfl, rfl⟩ := zgo_inj h
    have ea : zad G o = zgB G + o := zad_own ho hlim
    have eq : zad G q = zgB G + q := zad_own hq hlim
    rw [List.length_set, zsz_set ho (List.length_set ..)] at kk
    show W p l e R s m args below meth c H locs (w.length - n0) (zsz w - s0) Q (F0 m pc real (.ref (zad G q) :: .int j :: .ref (zad G o) :: st2.map (ztr G)))
    rw [ea, eq]
    rcases hci with rfl | rfl
    · exact zqast (tk := 2) (ci := 4) (cA := zgS G) hx hb hK hP hS hH rfl rfl (by decide) rfl eq hq ho rfl rfl hin hd (fun H1 locs1 hP1 hS1 hH1 => kk H1 locs1 real hP1 hS1 hH1 hl)
    · exact zqast (tk := 3) (ci := 6) (cA := zgN G) hx hb hK hP hS hH rfl rfl (by decide) rfl eq hq ho rfl rfl hin hd (fun H1 locs1 hP1 hS1 hH1 => kk H1 locs1 real hP1 hS1 hH1 hl)
  case arraylength =>
    obtain ⟨rfl, o, rest, rfl, ⟨t, sl, ho, ht1, ht2, h⟩ | ⟨rfl, h⟩⟩ := h
    · obtain ⟨rfl, rfl, rfl, rfl⟩ := zgo_inj h
      have ea : zad G o = zgB G + o := zad_own ho hlim
      have k1 := kk _ _ _ hP hS hH hl
      show W p l e R s m args below meth c H locs (w2.length - n0) (zsz w2 - s0) Q (F0 m pc real (.ref (zad G o) :: rest.map (ztr G)))
      rw [ea]
      rcases (show t = 20 ∨ t = 21 ∨ t = 22 ∨ t = 23 by omega) with rfl | rfl | rfl | rfl
      · exact va_alen hx hb hK hP o 0 (ztoW_get ho) rfl rfl hd k1
      · exact va_alen hx hb hK hP o 1 (ztoW_get ho) rfl rfl hd k1
      · exact va_alen hx hb hK hP o 2 (ztoW_get ho) rfl rfl hd k1
      · exact va_alen hx hb hK hP o 3 (ztoW_get ho) rfl rfl hd k1
    · obtain ⟨rfl, rfl, rfl, rfl⟩ := zgo_inj h
      exact va_slen hx hb hX hbl hbA hS hd (kk _ _ _ hP hS hH hl)
  case new ix =>
    obtain ⟨rfl, ci, hc, hw, h⟩ := h
    obtain ⟨rfl, rfl, rfl, rfl⟩ := zgo_inj h
    obtain ⟨hci, hlk⟩ := zkx_spec hc
    obtain ⟨q, hq⟩ := zcl_get hci
    obtain ⟨e1, e2, e3, e4, e5⟩ := zcl_spec hq
    have en : (zblank ci).length = q.2.2 := by
      unfold zblank
      rw [List.length_map, List.length_range]
      exact (zdes_eq hq 0).2.2
    rw [List.length_append] at kk hcel
    rw [zsz_app] at kk hslo
    dsimp only [List.length_cons, List.length_nil] at kk hcel hslo
    rw [en] at kk hslo
    refine znew hx hb hts hq e4 hown (by rw [e1]; exact hts _ hlk) (hts _ e2) (hts _ e3) hK hP hS hH (by omega) (by omega) hd (fun H1 hP1 hS1 hH1 => ?_)
    have k1 := kk H1 locs real hP1 hS1 (by rw [hH1, List.length_append]; rfl) hl
    rw [show w.length - n0 + 1 = w.length + 1 - n0 by omega, show zsz w - s0 + q.2.2 = zsz w + q.2.2 - s0 by omega]
    have k2 : W p l e R s m args below meth c H1 locs (w.length + 1 - n0) (zsz w + q.2.2 - s0) Q (F0 m (pc + 3) real (.ref (zad G w.length) :: st.map (ztr G))) := k1
    rw [zad_new hw] at k2
    exact k2
  case newarray a =>
    obtain ⟨rfl, n, rest, t, rfl, hn0, hn1, ht, hw, h⟩ := h
    obtain ⟨rfl, rfl, rfl, rfl⟩ := zgo_inj h
    rw [List.length_append] at kk hcel
    rw [zsz_app] at kk hslo
    dsimp only [List.length_cons, List.length_nil] at kk hcel hslo
    rw [List.length_replicate] at kk hslo
    have key : ∀ H1 : Heap, va_P (zgD G) zcl (ztoW G (w ++ [(t, List.replicate n.toNatClampNeg (.int 0))])) H1 → va_S (zA G) s.heap H1 locs → H1.size = zgB G + (w ++ [(t, List.replicate n.toNatClampNeg (Value.int 0))]).length → W p l e R s m args below meth c H1 locs (w.length - n0 + 1) (zsz w - s0 + n.toNatClampNeg) Q (F0 m (pc + 2) real (.ref (zgB G + w.length) :: rest.map (ztr G))) := by
      intro H1 hP1 hS1 hH1
      have k1 := kk H1 locs real hP1 hS1 (by rw [hH1, List.length_append]; rfl) hl
      rw [show w.length - n0 + 1 = w.length + 1 - n0 by omega, show zsz w - s0 + n.toNatClampNeg = zsz w + n.toNatClampNeg - s0 by omega]
      have k2 : W p l e R s m args below meth c H1 locs (w.length + 1 - n0) (zsz w + n.toNatClampNeg - s0) Q (F0 m (pc + 2) real (.ref (zad G w.length) :: rest.map (ztr G))) := k1
      rw [zad_new hw] at k2
      exact k2
    rcases ht with ⟨rfl, rfl⟩ | ⟨rfl, rfl⟩
    · exact znewa (ty := .int) (cA0 := zgI G) hx hb (hts _ zarr_i) rfl (hK.2 0 _ rfl).2 rfl (by rw [zconv_20, List.length_replicate]) hP hS hH hn0 rfl (by show _ * 4 ≤ _; omega) (by omega) (by omega) hd key
    · exact znewa (ty := .boolean) (cA0 := zgZ G) hx hb (hts _ zarr_z) rfl (hK.2 1 _ rfl).2 rfl (by rw [zconv_21, List.length_replicate]) hP hS hH hn0 rfl (by show _ * 1 ≤ _; omega) (by omega) (by omega) hd key
  case anewarray ix =>
    obtain ⟨rfl, n, rest, ci, rfl, hn0, hn1, hc, hci, hw, h⟩ := h
    obtain ⟨rfl, rfl, rfl, rfl⟩ := zgo_inj h
    obtain ⟨-, hlk⟩ := zkx_spec hc
    rw [List.length_append] at kk hcel
    rw [zsz_app] at kk hslo
    dsimp only [List.length_cons, List.length_nil] at kk hcel hslo
    rw [List.length_replicate] at kk hslo
    have key : ∀ H1 : Heap, va_P (zgD G) zcl (ztoW G (w ++ [(zacl ci, List.replicate n.toNatClampNeg .null)])) H1 → va_S (zA G) s.heap H1 locs → H1.size = zgB G + (w ++ [(zacl ci, List.replicate n.toNatClampNeg Value.null)]).length → W p l e R s m args below meth c H1 locs (w.length - n0 + 1) (zsz w - s0 + n.toNatClampNeg) Q (F0 m (pc + 3) real (.ref (zgB G + w.length) :: rest.map (ztr G))) := by
      intro H1 hP1 hS1 hH1
      have k1 := kk H1 locs real hP1 hS1 (by rw [hH1, List.length_append]; rfl) hl
      rw [show w.length - n0 + 1 = w.length + 1 - n0 by omega, show zsz w - s0 + n.toNatClampNeg = zsz w + n.toNatClampNeg - s0 by omega]
      have k2 : W p l e R s m args below meth c H1 locs (w.length + 1 - n0) (zsz w + n.toNatClampNeg - s0) Q (F0 m (pc + 3) real (.ref (zad G w.length) :: rest.map (ztr G))) := k1
      rw [zad_new hw] at k2
      exact k2
    rcases hci with rfl | rfl
    · obtain ⟨kA, comp, -, -, -, hf⟩ := (hK.2 2 _ rfl).2
      exact znewq (C := "AdjectiveCoupons$State") (cA0 := zgS G) (t := 22) hx hb hown (hts _ hlk) hAO1 hf (by rw [zconv_22, List.length_replicate]) hP hS hH hn0 rfl (by omega) (by omega) (by omega) hd key
    · obtain ⟨kA, comp, -, -, -, hf⟩ := (hK.2 3 _ rfl).2
      exact znewq (C := "AdjectiveCoupons$Line") (cA0 := zgN G) (t := 23) hx hb hown (hts _ hlk) hAO2 hf (by rw [zconv_23, List.length_replicate]) hP hS hH hn0 rfl (by omega) (by omega) (by omega) hd key
  case invokevirtual ix => obtain ⟨-, j, As, o, rest, N, -, -, -, -, -, -, h⟩ := h; cases h
  case invokespecial ix =>
    rcases h with ⟨rfl, ⟨o, rest, hmx, rfl, hcat, h⟩ | ⟨j, As, o, rest, N, -, -, -, -, -, -, -, h⟩⟩
    · obtain ⟨rfl, rfl, rfl, rfl⟩ := zgo_inj h
      obtain ⟨y, hy, -, -, a2, -, -, a5⟩ := zmx_spec hmx
      cases hy
      refine W.objInit hx hb hown (hts _ (a5 (Nat.le_refl _))) (hts _ (a2 (by decide))) (hts _ zobj_code) rfl (by show real.size = _; rw [hml]; exact hl.2.1) rfl hd hfr ?_ (kk _ _ _ hP hS hH hl)
      have := zcat_tr G st2
      show 2 * 0 + ((st2.map (ztr G)).map fun v => v.category).sum + 12 ≤ R.locals
      omega
    · cases h
  case invokestatic ix =>
    rcases h with ⟨rfl, ⟨x, y, rest, hmx, rfl, hcat, h⟩ | ⟨x, y, rest, hmx, rfl, hcat, h⟩ | ⟨j, As, rest, N, -, -, -, -, -, h⟩⟩
    · obtain ⟨rfl, rfl, rfl, rfl⟩ := zgo_inj h
      obtain ⟨y, hy, -, a1, -, -, -, a5⟩ := zmx_spec hmx
      cases hy
      refine va_mmax hx hb (by rw [hml]; exact hl.2.1.symm) hown (hts _ (a5 (by decide))) (hts _ (a1 rfl)) (hts _ zmath_init) (hts _ zmax_code) hfr ?_ (by omega) (by omega) hd (kk _ _ _ hP hS hH hl)
      have := zcat_tr G rest
      omega
    · obtain ⟨rfl, rfl, rfl, rfl⟩ := zgo_inj h
      obtain ⟨y, hy, -, a1, -, -, -, a5⟩ := zmx_spec hmx
      cases hy
      refine va_mmin hx hb (by rw [hml]; exact hl.2.1.symm) hown (hts _ (a5 (by decide))) (hts _ (a1 rfl)) (hts _ zmath_init) (hts _ zmin_code) hfr ?_ (by omega) (by omega) hd (kk _ _ _ hP hS hH hl)
      have := zcat_tr G rest
      omega
    · cases h
  case ireturn => obtain ⟨-, x, -, -, h⟩ := h; cases h
  case areturn => obtain ⟨-, v, n, -, -, -, h⟩ := h; cases h
  case return_ => obtain ⟨-, -, -, h⟩ := h; cases h
  all_goals exact False.elim h
end ZSIM
