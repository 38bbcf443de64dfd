-- ===== rows: one instruction of a run over a store =====
section ZROWS
variable {L : Nat} {xs : Nat → Int32} {d : Nat} {M : zPM} {pc : Nat} {ls : zL} {st : List Value} {g g' : zS} {r : Option Value}
theorem y0 {i : Instr} {len pc2 : Nat} {ls2 : zL} {st2 : List Value} {g2 : zS} (hd : decode M.2.1 pc = .ok (i, len)) (hs : zStep L xs M i len pc ls st (wd g) (zgo pc2 ls2 st2 (wd g2))) (kk : zG2 L xs d M pc2 ls2 st2 g2 r g') : zG2 L xs d M pc ls st g r g' := by
  obtain ⟨n, h⟩ := kk
  exact ⟨n + 1, i, len, _, hd, hs, h⟩
theorem y_call {i : Instr} {len j : Nat} {As rest : List Value} {v : Option Value} {g2 : zS} (hd : decode M.2.1 pc = .ok (i, len)) (hs : zStep L xs M i len pc ls st (wd g) (.inr (.inr (j, As, rest)))) (he : zE2 L xs d j As g v g2) (kk : zG2 L xs d M (pc + len) ls (v.toList ++ rest) g2 r g') : zG2 L xs d M pc ls st g r g' := by
  obtain ⟨n, h⟩ := kk
  exact ⟨n + 1, i, len, _, hd, hs, v, _, he, h⟩
theorem y_ret {i : Instr} {len : Nat} {v : Option Value} (hd : decode M.2.1 pc = .ok (i, len)) (hs : zStep L xs M i len pc ls st (wd g) (.inr (.inl v))) : zG2 L xs d M pc ls st g v g := ⟨1, i, len, _, hd, hs, rfl, rfl⟩
theorem y_weak {ls0 : zL} (h : zle ls0 ls) (kk : zG2 L xs d M pc ls0 st g r g') : zG2 L xs d M pc ls st g r g' := by
  obtain ⟨n, hn⟩ := kk
  exact ⟨n, zrun_weak n pc ls0 ls st (wd g) (zle_lp h) hn⟩
/-- a method's answer out of its body -/
theorem y_ev {j n : Nat} {As : List Value} (hM : zpms[j]? = some M) (ho : M.2.2.2.2 ≠ 99) (hl : (zargs As).length ≤ M.2.2.1) (hi : zini M.2.2.1 As = ls) (kk : zG2 L xs d M 0 ls [] g r g') : zE2 L xs (d + 1) j As g r g' := by
  obtain ⟨n, h⟩ := kk
  exact Or.inr (Or.inr ⟨M, n, hM, ho, hl, by rw [hi]; exact h⟩)
theorem y_null (hd : decode M.2.1 pc = .ok (.aconst_null, 1)) (kk : zG2 L xs d M (pc + 1) ls (.null :: st) g r g') : zG2 L xs d M pc ls (st) g r g' := y0 hd ⟨rfl, rfl⟩ kk
theorem y_aload_n {k : Fin 4} {v : Value} (hd : decode M.2.1 pc = .ok (.aload_n k, 1)) (hl : ls[(k : Nat)]? = some (some v)) (hv : zrv v = true) (kk : zG2 L xs d M (pc + 1) ls (v :: st) g r g') : zG2 L xs d M pc ls (st) g r g' := y0 hd ⟨rfl, _, hl, hv, rfl⟩ kk
theorem y_aload {k : Nat} {v : Value} (hd : decode M.2.1 pc = .ok (.aload k, 2)) (hl : ls[k]? = some (some v)) (hv : zrv v = true) (kk : zG2 L xs d M (pc + 2) ls (v :: st) g r g') : zG2 L xs d M pc ls (st) g r g' := y0 hd ⟨rfl, _, hl, hv, rfl⟩ kk
theorem y_iload_n {k : Fin 4} {x : Int32} (hd : decode M.2.1 pc = .ok (.iload_n k, 1)) (hl : ls[(k : Nat)]? = some (some (.int x))) (kk : zG2 L xs d M (pc + 1) ls (.int x :: st) g r g') : zG2 L xs d M pc ls (st) g r g' := y0 hd ⟨rfl, _, hl, rfl⟩ kk
theorem y_iload {k : Nat} {x : Int32} (hd : decode M.2.1 pc = .ok (.iload k, 2)) (hl : ls[k]? = some (some (.int x))) (kk : zG2 L xs d M (pc + 2) ls (.int x :: st) g r g') : zG2 L xs d M pc ls (st) g r g' := y0 hd ⟨rfl, _, hl, rfl⟩ kk
theorem y_lload_n {k : Fin 4} {x : Int64} (hd : decode M.2.1 pc = .ok (.lload_n k, 1)) (hl : ls[(k : Nat)]? = some (some (.long x))) (kk : zG2 L xs d M (pc + 1) ls (.long x :: st) g r g') : zG2 L xs d M pc ls (st) g r g' := y0 hd ⟨rfl, _, hl, rfl⟩ kk
theorem y_lload {k : Nat} {x : Int64} (hd : decode M.2.1 pc = .ok (.lload k, 2)) (hl : ls[k]? = some (some (.long x))) (kk : zG2 L xs d M (pc + 2) ls (.long x :: st) g r g') : zG2 L xs d M pc ls (st) g r g' := y0 hd ⟨rfl, _, hl, rfl⟩ kk
theorem y_iconst {n : Int} {v : Int32} (hd : decode M.2.1 pc = .ok (.iconst n, 1)) (hv : Int32.ofInt n = v) (kk : zG2 L xs d M (pc + 1) ls (.int v :: st) g r g') : zG2 L xs d M pc ls (st) g r g' := y0 hd ⟨rfl, by rw [hv]⟩ kk
theorem y_bipush {n : Int} {v : Int32} (hd : decode M.2.1 pc = .ok (.bipush n, 2)) (hv : (Int8.ofInt n).toInt32 = v) (kk : zG2 L xs d M (pc + 2) ls (.int v :: st) g r g') : zG2 L xs d M pc ls (st) g r g' := y0 hd ⟨rfl, by rw [hv]⟩ kk
theorem y_sipush {n : Int} {v : Int32} (hd : decode M.2.1 pc = .ok (.sipush n, 3)) (hv : (Int16.ofInt n).toInt32 = v) (kk : zG2 L xs d M (pc + 3) ls (.int v :: st) g r g') : zG2 L xs d M pc ls (st) g r g' := y0 hd ⟨rfl, by rw [hv]⟩ kk
theorem y_lconst {n : Fin 2} {v : Int64} (hd : decode M.2.1 pc = .ok (.lconst n, 1)) (hv : Int64.ofNat (n : Nat) = v) (kk : zG2 L xs d M (pc + 1) ls (.long v :: st) g r g') : zG2 L xs d M pc ls (st) g r g' := y0 hd ⟨rfl, by rw [hv]⟩ kk
theorem y_ldc {ix : Nat} {v : Int32} (hd : decode M.2.1 pc = .ok (.ldc ix, 2)) (hv : zix M.2.2.2.2 ix = some v) (kk : zG2 L xs d M (pc + 2) ls (.int v :: st) g r g') : zG2 L xs d M pc ls (st) g r g' := y0 hd ⟨rfl, Or.inl ⟨_, hv, rfl⟩⟩ kk
theorem y_ldcs {ix : Nat} (hd : decode M.2.1 pc = .ok (.ldc ix, 2)) (h1 : M.2.2.2.2 = 1) (h2 : ix = 81) (kk : zG2 L xs d M (pc + 2) ls (.ref zSTR :: st) g r g') : zG2 L xs d M pc ls (st) g r g' := y0 hd ⟨rfl, Or.inr ⟨h1, h2, rfl⟩⟩ kk
theorem y_ldcw {ix : Nat} {v : Int32} (hd : decode M.2.1 pc = .ok (.ldc_w ix, 3)) (hv : zix M.2.2.2.2 ix = some v) (kk : zG2 L xs d M (pc + 3) ls (.int v :: st) g r g') : zG2 L xs d M pc ls (st) g r g' := y0 hd ⟨rfl, _, hv, rfl⟩ kk
theorem y_ldc2 {ix : Nat} {v : Int64} (hd : decode M.2.1 pc = .ok (.ldc2_w ix, 3)) (hv : zlx M.2.2.2.2 ix = some v) (kk : zG2 L xs d M (pc + 3) ls (.long v :: st) g r g') : zG2 L xs d M pc ls (st) g r g' := y0 hd ⟨rfl, _, hv, rfl⟩ kk
theorem y_istore_n {k : Fin 4} {x : Int32} {ls2 : zL} (hd : decode M.2.1 pc = .ok (.istore_n k, 1)) (hn : znl ls = true) (hk : (k : Nat) < ls.length) (he : ls.set (k : Nat) (some (.int x)) = ls2) (kk : zG2 L xs d M (pc + 1) ls2 (st) g r g') : zG2 L xs d M pc ls (.int x :: st) g r g' := y0 hd ⟨rfl, _, _, rfl, hn, hk, by rw [he]⟩ kk
theorem y_istore {k : Nat} {x : Int32} {ls2 : zL} (hd : decode M.2.1 pc = .ok (.istore k, 2)) (hn : znl ls = true) (hk : k < ls.length) (he : ls.set k (some (.int x)) = ls2) (kk : zG2 L xs d M (pc + 2) ls2 (st) g r g') : zG2 L xs d M pc ls (.int x :: st) g r g' := y0 hd ⟨rfl, _, _, rfl, hn, hk, by rw [he]⟩ kk
theorem y_astore_n {k : Fin 4} {v : Value} {ls2 : zL} (hd : decode M.2.1 pc = .ok (.astore_n k, 1)) (hv : zrv v = true) (hn : znl ls = true) (hk : (k : Nat) < ls.length) (he : ls.set (k : Nat) (some v) = ls2) (kk : zG2 L xs d M (pc + 1) ls2 (st) g r g') : zG2 L xs d M pc ls (v :: st) g r g' := y0 hd ⟨rfl, _, _, rfl, hv, hn, hk, by rw [he]⟩ kk
theorem y_astore {k : Nat} {v : Value} {ls2 : zL} (hd : decode M.2.1 pc = .ok (.astore k, 2)) (hv : zrv v = true) (hn : znl ls = true) (hk : k < ls.length) (he : ls.set k (some v) = ls2) (kk : zG2 L xs d M (pc + 2) ls2 (st) g r g') : zG2 L xs d M pc ls (v :: st) g r g' := y0 hd ⟨rfl, _, _, rfl, hv, hn, hk, by rw [he]⟩ kk
theorem y_iinc {k : Nat} {n : Int} {x v : Int32} {ls2 : zL} (hd : decode M.2.1 pc = .ok (.iinc k n, 3)) (hl : ls[k]? = some (some (.int x))) (hn : znl ls = true) (hv : x + Int32.ofInt n = v) (he : ls.set k (some (.int v)) = ls2) (kk : zG2 L xs d M (pc + 3) ls2 (st) g r g') : zG2 L xs d M pc ls (st) g r g' := y0 hd ⟨rfl, _, hl, hn, by rw [hv, he]⟩ kk
theorem y_iadd {x y : Int32} (hd : decode M.2.1 pc = .ok (.iadd, 1)) (kk : zG2 L xs d M (pc + 1) ls (.int (x + y) :: st) g r g') : zG2 L xs d M pc ls (.int y :: .int x :: st) g r g' := y0 hd ⟨rfl, _, _, _, rfl, rfl⟩ kk
theorem y_isub {x y : Int32} (hd : decode M.2.1 pc = .ok (.isub, 1)) (kk : zG2 L xs d M (pc + 1) ls (.int (x - y) :: st) g r g') : zG2 L xs d M pc ls (.int y :: .int x :: st) g r g' := y0 hd ⟨rfl, _, _, _, rfl, rfl⟩ kk
theorem y_imul {x y : Int32} (hd : decode M.2.1 pc = .ok (.imul, 1)) (kk : zG2 L xs d M (pc + 1) ls (.int (x * y) :: st) g r g') : zG2 L xs d M pc ls (.int y :: .int x :: st) g r g' := y0 hd ⟨rfl, _, _, _, rfl, rfl⟩ kk
theorem y_iand {x y : Int32} (hd : decode M.2.1 pc = .ok (.iand, 1)) (kk : zG2 L xs d M (pc + 1) ls (.int (x &&& y) :: st) g r g') : zG2 L xs d M pc ls (.int y :: .int x :: st) g r g' := y0 hd ⟨rfl, _, _, _, rfl, rfl⟩ kk
theorem y_ior {x y : Int32} (hd : decode M.2.1 pc = .ok (.ior, 1)) (kk : zG2 L xs d M (pc + 1) ls (.int (x ||| y) :: st) g r g') : zG2 L xs d M pc ls (.int y :: .int x :: st) g r g' := y0 hd ⟨rfl, _, _, _, rfl, rfl⟩ kk
theorem y_ixor {x y : Int32} (hd : decode M.2.1 pc = .ok (.ixor, 1)) (kk : zG2 L xs d M (pc + 1) ls (.int (x ^^^ y) :: st) g r g') : zG2 L xs d M pc ls (.int y :: .int x :: st) g r g' := y0 hd ⟨rfl, _, _, _, rfl, rfl⟩ kk
theorem y_ishl {x y : Int32} (hd : decode M.2.1 pc = .ok (.ishl, 1)) (kk : zG2 L xs d M (pc + 1) ls (.int (x <<< (y &&& 31)) :: st) g r g') : zG2 L xs d M pc ls (.int y :: .int x :: st) g r g' := y0 hd ⟨rfl, _, _, _, rfl, rfl⟩ kk
theorem y_ishr {x y : Int32} (hd : decode M.2.1 pc = .ok (.ishr, 1)) (kk : zG2 L xs d M (pc + 1) ls (.int (x >>> (y &&& 31)) :: st) g r g') : zG2 L xs d M pc ls (.int y :: .int x :: st) g r g' := y0 hd ⟨rfl, _, _, _, rfl, rfl⟩ kk
theorem y_iushr {x y : Int32} (hd : decode M.2.1 pc = .ok (.iushr, 1)) (kk : zG2 L xs d M (pc + 1) ls (.int ((x.toUInt32 >>> (y.toUInt32 &&& Int32.toUInt32 31)).toInt32) :: st) g r g') : zG2 L xs d M pc ls (.int y :: .int x :: st) g r g' := y0 hd ⟨rfl, _, _, _, rfl, rfl⟩ kk
theorem y_idiv {x y : Int32} (hd : decode M.2.1 pc = .ok (.idiv, 1)) (hy : ¬ y = 0) (kk : zG2 L xs d M (pc + 1) ls (.int (x / y) :: st) g r g') : zG2 L xs d M pc ls (.int y :: .int x :: st) g r g' := y0 hd ⟨rfl, _, _, _, rfl, hy, rfl⟩ kk
theorem y_irem {x y : Int32} (hd : decode M.2.1 pc = .ok (.irem, 1)) (hy : ¬ y = 0) (kk : zG2 L xs d M (pc + 1) ls (.int (x - x / y * y) :: st) g r g') : zG2 L xs d M pc ls (.int y :: .int x :: st) g r g' := y0 hd ⟨rfl, _, _, _, rfl, hy, rfl⟩ kk
theorem y_ineg {x : Int32} (hd : decode M.2.1 pc = .ok (.ineg, 1)) (kk : zG2 L xs d M (pc + 1) ls (.int (-x) :: st) g r g') : zG2 L xs d M pc ls (.int x :: st) g r g' := y0 hd ⟨rfl, _, _, rfl, rfl⟩ kk
theorem y_i2l {x : Int32} (hd : decode M.2.1 pc = .ok (.i2l, 1)) (kk : zG2 L xs d M (pc + 1) ls (.long x.toInt64 :: st) g r g') : zG2 L xs d M pc ls (.int x :: st) g r g' := y0 hd ⟨rfl, _, _, rfl, rfl⟩ kk
theorem y_lcmp {x y : Int64} (hd : decode M.2.1 pc = .ok (.lcmp, 1)) (kk : zG2 L xs d M (pc + 1) ls (.int (lg_cmp x y) :: st) g r g') : zG2 L xs d M pc ls (.long y :: .long x :: st) g r g' := y0 hd ⟨rfl, _, _, _, rfl, rfl⟩ kk
theorem y_dup {v : Value} (hd : decode M.2.1 pc = .ok (.dup, 1)) (hv : v.category = 1) (kk : zG2 L xs d M (pc + 1) ls (v :: v :: st) g r g') : zG2 L xs d M pc ls (v :: st) g r g' := y0 hd ⟨rfl, _, _, rfl, hv, rfl⟩ kk
theorem y_dup2 {v u : Value} (hd : decode M.2.1 pc = .ok (.dup2, 1)) (hv : v.category = 1) (hu : u.category = 1) (kk : zG2 L xs d M (pc + 1) ls (v :: u :: v :: u :: st) g r g') : zG2 L xs d M pc ls (v :: u :: st) g r g' := y0 hd ⟨rfl, _, _, _, rfl, hv, hu, rfl⟩ kk
theorem y_pop {v : Value} (hd : decode M.2.1 pc = .ok (.pop, 1)) (hv : v.category = 1) (kk : zG2 L xs d M (pc + 1) ls (st) g r g') : zG2 L xs d M pc ls (v :: st) g r g' := y0 hd ⟨rfl, _, _, rfl, hv, rfl⟩ kk
theorem y_ifT {c : Jvm.ClassFile.Cond} {off : Int} {tgt : Nat} {x : Int32} (hd : decode M.2.1 pc = .ok (.ifCond c off, 3)) (ht : (pc : Int) + off = (tgt : Int)) (hc : zcond c x 0) (kk : zG2 L xs d M (tgt) ls (st) g r g') : zG2 L xs d M pc ls (.int x :: st) g r g' := y0 hd ⟨rfl, _, _, _, rfl, ht, Or.inl ⟨hc, rfl⟩⟩ kk
theorem y_ifF {c : Jvm.ClassFile.Cond} {off : Int} (tgt : Nat) {x : Int32} (hd : decode M.2.1 pc = .ok (.ifCond c off, 3)) (ht : (pc : Int) + off = (tgt : Int)) (hc : ¬ zcond c x 0) (kk : zG2 L xs d M (pc + 3) ls (st) g r g') : zG2 L xs d M pc ls (.int x :: st) g r g' := y0 hd ⟨rfl, _, _, _, rfl, ht, Or.inr ⟨hc, rfl⟩⟩ kk
theorem y_icT {c : Jvm.ClassFile.Cond} {off : Int} {tgt : Nat} {x y : Int32} (hd : decode M.2.1 pc = .ok (.if_icmp c off, 3)) (ht : (pc : Int) + off = (tgt : Int)) (hc : zcond c x y) (kk : zG2 L xs d M (tgt) ls (st) g r g') : zG2 L xs d M pc ls (.int y :: .int x :: st) g r g' := y0 hd ⟨rfl, _, _, _, _, rfl, ht, Or.inl ⟨hc, rfl⟩⟩ kk
theorem y_icF {c : Jvm.ClassFile.Cond} {off : Int} (tgt : Nat) {x y : Int32} (hd : decode M.2.1 pc = .ok (.if_icmp c off, 3)) (ht : (pc : Int) + off = (tgt : Int)) (hc : ¬ zcond c x y) (kk : zG2 L xs d M (pc + 3) ls (st) g r g') : zG2 L xs d M pc ls (.int y :: .int x :: st) g r g' := y0 hd ⟨rfl, _, _, _, _, rfl, ht, Or.inr ⟨hc, rfl⟩⟩ kk
theorem y_nullT {off : Int} {tgt : Nat} (hd : decode M.2.1 pc = .ok (.ifnull off, 3)) (ht : (pc : Int) + off = (tgt : Int)) (kk : zG2 L xs d M (tgt) ls (st) g r g') : zG2 L xs d M pc ls (.null :: st) g r g' := y0 hd ⟨rfl, Or.inl ⟨_, _, rfl, ht, rfl⟩⟩ kk
theorem y_nullF {off : Int} {q : Nat} (hd : decode M.2.1 pc = .ok (.ifnull off, 3)) (kk : zG2 L xs d M (pc + 3) ls (st) g r g') : zG2 L xs d M pc ls (.ref q :: st) g r g' := y0 hd ⟨rfl, Or.inr ⟨_, _, rfl, rfl⟩⟩ kk
theorem y_nonnullT {off : Int} {tgt q : Nat} (hd : decode M.2.1 pc = .ok (.ifnonnull off, 3)) (ht : (pc : Int) + off = (tgt : Int)) (kk : zG2 L xs d M (tgt) ls (st) g r g') : zG2 L xs d M pc ls (.ref q :: st) g r g' := y0 hd ⟨rfl, Or.inl ⟨_, _, _, rfl, ht, rfl⟩⟩ kk
theorem y_nonnullF {off : Int} (hd : decode M.2.1 pc = .ok (.ifnonnull off, 3)) (kk : zG2 L xs d M (pc + 3) ls (st) g r g') : zG2 L xs d M pc ls (.null :: st) g r g' := y0 hd ⟨rfl, Or.inr ⟨_, rfl, rfl⟩⟩ kk
theorem y_goto {off : Int} {tgt : Nat} (hd : decode M.2.1 pc = .ok (.goto off, 3)) (ht : (pc : Int) + off = (tgt : Int)) (kk : zG2 L xs d M (tgt) ls (st) g r g') : zG2 L xs d M pc ls (st) g r g' := y0 hd ⟨rfl, _, ht, rfl⟩ kk
theorem y_tswD {df lo hi : Int} {offs : Array Int} {len tgt : Nat} {x : Int32} (hd : decode M.2.1 pc = .ok (.tableswitch df lo hi offs, len)) (hx : x.toInt < lo ∨ hi < x.toInt) (ht : (pc : Int) + df = (tgt : Int)) (kk : zG2 L xs d M tgt ls st g r g') : zG2 L xs d M pc ls (.int x :: st) g r g' := y0 hd ⟨_, _, _, rfl, Or.inl ⟨hx, ht⟩, rfl⟩ kk
theorem y_tsw {df lo hi off : Int} {offs : Array Int} {len tgt : Nat} {x : Int32} (v : Int32) (hd : decode M.2.1 pc = .ok (.tableswitch df lo hi offs, len)) (hx : x = v) (h1 : ¬ v.toInt < lo) (h2 : ¬ hi < v.toInt) (ho : offs[(v.toInt - lo).toNat]? = some off) (ht : (pc : Int) + off = (tgt : Int)) (kk : zG2 L xs d M tgt ls st g r g') : zG2 L xs d M pc ls (.int x :: st) g r g' := by
  subst hx
  exact y0 hd ⟨_, _, _, rfl, Or.inr ⟨h1, h2, _, ho, ht⟩, rfl⟩ kk
theorem y_getI {ix o ci k : Nat} {sl : List (Option Nat)} (hd : decode M.2.1 pc = .ok (.getfield ix, 3)) (hf : zfx M.2.2.2.2 ix = some (ci, k)) (hs : zsh o = some (ci, sl)) (hk : sl[k]? = some none) (kk : zG2 L xs d M (pc + 3) ls (.int (g o k) :: st) g r g') : zG2 L xs d M pc ls (.ref o :: st) g r g' := y0 hd ⟨rfl, _, _, _, _, _, _, rfl, hf, wd_get hs, zsl_get hk, rfl⟩ kk
theorem y_getR {ix o ci k q : Nat} {sl : List (Option Nat)} (hd : decode M.2.1 pc = .ok (.getfield ix, 3)) (hf : zfx M.2.2.2.2 ix = some (ci, k)) (hs : zsh o = some (ci, sl)) (hk : sl[k]? = some (some q)) (kk : zG2 L xs d M (pc + 3) ls (.ref q :: st) g r g') : zG2 L xs d M pc ls (.ref o :: st) g r g' := y0 hd ⟨rfl, _, _, _, _, _, _, rfl, hf, wd_get hs, zsl_get hk, rfl⟩ kk
theorem y_putI {ix o ci k : Nat} {x : Int32} {sl : List (Option Nat)} (hd : decode M.2.1 pc = .ok (.putfield ix, 3)) (hf : zfx M.2.2.2.2 ix = some (ci, k)) (hs : zsh o = some (ci, sl)) (hk : sl[k]? = some none) (hi : zdes ci k = "I") (hfin : zfin ci k = false) (kk : zG2 L xs d M (pc + 3) ls st (zup g o k x) r g') : zG2 L xs d M pc ls (.int x :: .ref o :: st) g r g' := by
  refine y0 hd ⟨rfl, _, _, _, _, _, _, rfl, hf, wd_get hs, ?_, ?_, ?_, ?_⟩ kk
  · rw [zsl_len]
    exact (List.getElem?_eq_some_iff.mp hk).1
  · unfold zfit
    rw [if_pos hi]
  · intro h
    rw [hfin] at h
    cases h
  · rw [wd_set hs hk]
theorem zArr_at {a i : Nat} (h : zArr a) (hi : i < zlen a) : (List.replicate (zlen a) (none : Option Nat))[i]? = some none := by
  rw [List.getElem?_replicate, if_pos hi]
theorem y_iald {a : Nat} {i : Int32} (hd : decode M.2.1 pc = .ok (.iaload, 1)) (ha : zArr a) (hi : zin i (zlen a)) (kk : zG2 L xs d M (pc + 1) ls (.int (g a i.toNatClampNeg) :: st) g r g') : zG2 L xs d M pc ls (.int i :: .ref a :: st) g r g' := by
  refine y0 hd ⟨rfl, _, _, _, rfl, Or.inl ⟨_, _, wd_get ha, ?_, zsl_get (zArr_at ha (zin_lt hi)), rfl⟩⟩ kk
  rw [zsl_len, List.length_replicate]
  exact zin_vp hi
theorem y_iast {a : Nat} {i x : Int32} (hd : decode M.2.1 pc = .ok (.iastore, 1)) (ha : zArr a) (hi : zin i (zlen a)) (kk : zG2 L xs d M (pc + 1) ls st (zup g a i.toNatClampNeg x) r g') : zG2 L xs d M pc ls (.int x :: .int i :: .ref a :: st) g r g' := by
  refine y0 hd ⟨rfl, _, _, _, _, _, rfl, wd_get ha, ?_, ?_⟩ kk
  · rw [zsl_len, List.length_replicate]
    exact zin_vp hi
  · rw [wd_set ha (zArr_at ha (zin_lt hi))]
def zBoo (a : Nat) : Prop := zsh a = some (21, List.replicate (zlen a) none)
theorem zBoo_at {a i : Nat} (hi : i < zlen a) : (List.replicate (zlen a) (none : Option Nat))[i]? = some none := by
  rw [List.getElem?_replicate, if_pos hi]
theorem y_bald {a : Nat} {i : Int32} (hd : decode M.2.1 pc = .ok (.baload, 1)) (ha : zBoo a) (hi : zin i (zlen a)) (kk : zG2 L xs d M (pc + 1) ls (.int (g a i.toNatClampNeg) :: st) g r g') : zG2 L xs d M pc ls (.int i :: .ref a :: st) g r g' := by
  refine y0 hd ⟨rfl, _, _, _, _, _, rfl, wd_get ha, ?_, zsl_get (zBoo_at (zin_lt hi)), rfl⟩ kk
  rw [zsl_len, List.length_replicate]
  exact zin_vp hi
theorem y_bast {a : Nat} {i x : Int32} (hd : decode M.2.1 pc = .ok (.bastore, 1)) (ha : zBoo a) (hi : zin i (zlen a)) (hx : x = 0 ∨ x = 1) (kk : zG2 L xs d M (pc + 1) ls st (zup g a i.toNatClampNeg x) r g') : zG2 L xs d M pc ls (.int x :: .int i :: .ref a :: st) g r g' := by
  refine y0 hd ⟨rfl, _, _, _, _, _, rfl, hx, wd_get ha, ?_, ?_⟩ kk
  · rw [zsl_len, List.length_replicate]
    exact zin_vp hi
  · rw [wd_set ha (zBoo_at (zin_lt hi))]
/-- a row of references, all there -/
def zRef (t a : Nat) : Prop := ∃ sl : List (Option Nat), zsh a = some (t, sl) ∧ ∀ i, i < sl.length → sl[i]? = some (some (zel a i))
theorem y_aald {a t : Nat} {i : Int32} (hd : decode M.2.1 pc = .ok (.aaload, 1)) (ht : t = 22 ∨ t = 23) (ha : zRef t a) (hi : zin i (zlen a)) (kk : zG2 L xs d M (pc + 1) ls (.ref (zel a i.toNatClampNeg) :: st) g r g') : zG2 L xs d M pc ls (.int i :: .ref a :: st) g r g' := by
  obtain ⟨sl, h1, h2⟩ := ha
  have hl : zlen a = sl.length := by
    unfold zlen
    rw [h1]
  rw [hl] at hi
  refine y0 hd ⟨rfl, _, _, _, t, _, _, rfl, ht, wd_get h1, ?_, zsl_get (h2 _ (zin_lt hi)), rfl, rfl⟩ kk
  rw [zsl_len]
  exact zin_vp hi
theorem y_alen {a t : Nat} {sl : List (Option Nat)} {v : Int32} (hd : decode M.2.1 pc = .ok (.arraylength, 1)) (ha : zsh a = some (t, sl)) (h1 : 20 ≤ t) (h2 : t ≤ 23) (hv : Int32.ofNat sl.length = v) (kk : zG2 L xs d M (pc + 1) ls (.int v :: st) g r g') : zG2 L xs d M pc ls (.ref a :: st) g r g' :=
  y0 hd ⟨rfl, _, _, rfl, Or.inl ⟨t, _, wd_get ha, h1, h2, by rw [zsl_len, hv]⟩⟩ kk
theorem y_alenA {a : Nat} (hd : decode M.2.1 pc = .ok (.arraylength, 1)) (ha : zArr a) (kk : zG2 L xs d M (pc + 1) ls (.int (nI (zlen a)) :: st) g r g') : zG2 L xs d M pc ls (.ref a :: st) g r g' :=
  y_alen hd ha (by decide) (by decide) (by rw [List.length_replicate]; rfl) kk
theorem y_sld {i : Int32} (hd : decode M.2.1 pc = .ok (.iaload, 1)) (hi : zin i L) (kk : zG2 L xs d M (pc + 1) ls (.int (xs i.toNatClampNeg) :: st) g r g') : zG2 L xs d M pc ls (.int i :: .ref zSCR :: st) g r g' := y0 hd ⟨rfl, _, _, _, rfl, Or.inr ⟨rfl, zin_vp hi, rfl⟩⟩ kk
theorem y_slen (hd : decode M.2.1 pc = .ok (.arraylength, 1)) (kk : zG2 L xs d M (pc + 1) ls (.int (nI L) :: st) g r g') : zG2 L xs d M pc ls (.ref zSCR :: st) g r g' := y0 hd ⟨rfl, _, _, rfl, Or.inr ⟨rfl, rfl⟩⟩ kk
theorem y_invV {ix j o ci : Nat} {As rest : List Value} {N : zPM} {v : Option Value} {sl : List (Option Nat)} {g2 : zS} (he : zE2 L xs d j (.ref o :: As) g v g2) (hd : decode M.2.1 pc = .ok (.invokevirtual ix, 3)) (hm : zmx M.2.2.2.2 ix = some (j, 1)) (hN : zpms[j]? = some N) (hna : zna[j]? = some As.length) (hst : st = As.reverse ++ .ref o :: rest) (hcat : zcat rest ≤ 8) (hs : zsh o = some (ci, sl)) (hci : ci < 11) (hc : zcn ci = N.1.cls) (kk : zG2 L xs d M (pc + 3) ls (v.toList ++ rest) g2 r g') : zG2 L xs d M pc ls st g r g' :=
  y_call hd ⟨rfl, _, _, _, _, N, hm, hN, hna, hst, hcat, Or.inl ⟨_, _, wd_get hs, hci, hc⟩, rfl⟩ he kk
theorem y_invT {ix j : Nat} {As rest : List Value} {N : zPM} {v : Option Value} {g2 : zS} (he : zE2 L xs d j (.ref zSTR :: As) g v g2) (hd : decode M.2.1 pc = .ok (.invokevirtual ix, 3)) (hm : zmx M.2.2.2.2 ix = some (j, 1)) (hN : zpms[j]? = some N) (hna : zna[j]? = some As.length) (hst : st = As.reverse ++ .ref zSTR :: rest) (hcat : zcat rest ≤ 8) (hc : N.1.cls = "java/lang/String") (kk : zG2 L xs d M (pc + 3) ls (v.toList ++ rest) g2 r g') : zG2 L xs d M pc ls st g r g' :=
  y_call hd ⟨rfl, _, _, _, _, N, hm, hN, hna, hst, hcat, Or.inr ⟨rfl, hc⟩, rfl⟩ he kk
theorem y_invS {ix j : Nat} {As rest : List Value} {N : zPM} {v : Option Value} {g2 : zS} (he : zE2 L xs d j As g v g2) (hd : decode M.2.1 pc = .ok (.invokestatic ix, 3)) (hm : zmx M.2.2.2.2 ix = some (j, 0)) (hN : zpms[j]? = some N) (hna : zna[j]? = some As.length) (hst : st = As.reverse ++ rest) (hcat : zcat rest ≤ 8) (kk : zG2 L xs d M (pc + 3) ls (v.toList ++ rest) g2 r g') : zG2 L xs d M pc ls st g r g' :=
  y_call hd ⟨rfl, Or.inr (Or.inr ⟨_, _, _, N, hm, hN, hna, hst, hcat, rfl⟩)⟩ he kk
theorem y_max {ix : Nat} {x y : Int32} (hd : decode M.2.1 pc = .ok (.invokestatic ix, 3)) (hm : zmx M.2.2.2.2 ix = some (1001, 0)) (hcat : zcat st ≤ 8) (kk : zG2 L xs d M (pc + 3) ls (.int (if x < y then y else x) :: st) g r g') : zG2 L xs d M pc ls (.int y :: .int x :: st) g r g' :=
  y0 hd ⟨rfl, Or.inl ⟨_, _, _, hm, rfl, hcat, rfl⟩⟩ kk
theorem y_min {ix : Nat} {x y : Int32} (hd : decode M.2.1 pc = .ok (.invokestatic ix, 3)) (hm : zmx M.2.2.2.2 ix = some (1002, 0)) (hcat : zcat st ≤ 8) (kk : zG2 L xs d M (pc + 3) ls (.int (if y < x then y else x) :: st) g r g') : zG2 L xs d M pc ls (.int y :: .int x :: st) g r g' :=
  y0 hd ⟨rfl, Or.inr (Or.inl ⟨_, _, _, hm, rfl, hcat, rfl⟩)⟩ kk
theorem y_iret {x : Int32} (hd : decode M.2.1 pc = .ok (.ireturn, 1)) (hr : M.2.2.2.1 = some .int) : zG2 L xs d M pc ls [.int x] g (some (.int x)) g := y_ret hd ⟨rfl, _, rfl, Or.inl hr, rfl⟩
theorem y_zret {x : Int32} (hd : decode M.2.1 pc = .ok (.ireturn, 1)) (hr : M.2.2.2.1 = some .boolean) (hx : x = 0 ∨ x = 1) : zG2 L xs d M pc ls [.int x] g (some (.int x)) g := y_ret hd ⟨rfl, _, rfl, Or.inr ⟨hr, hx⟩, rfl⟩
theorem y_aret {v : Value} {n : String} (hd : decode M.2.1 pc = .ok (.areturn, 1)) (hr : M.2.2.2.1 = some (.object n)) (hv : zrv v = true) : zG2 L xs d M pc ls [v] g (some v) g := y_ret hd ⟨rfl, _, _, rfl, hv, hr, rfl⟩
theorem y_vret (hd : decode M.2.1 pc = .ok (.return_, 1)) (hr : M.2.2.2.1 = none) : zG2 L xs d M pc ls [] g none g := y_ret hd ⟨rfl, rfl, hr, rfl⟩
end ZROWS
