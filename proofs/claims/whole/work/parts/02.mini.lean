-- ===== a small machine over worlds as lists: its cells (a class by its place in zcl, its fields; 20 int[], 21 boolean[], 22 State[], 23 Line[], its elements), references by a cell's place =====
abbrev zW : Type := List (Nat × List Value)
abbrev zL : Type := List (Option Value)
def zSCR : Nat := 1000001
def zSTR : Nat := 1000002
def zlim : Nat := 1000000
def zfx (oc ix : Nat) : Option (Nat × Nat) := if ix < 1000 then (zfl.find? (fun e => e.1 == oc * 1000 + ix)).map (fun e => (e.2.1, e.2.2.1)) else none
def zmx (oc ix : Nat) : Option (Nat × Nat) := if ix < 1000 then (zml.find? (fun e => e.1 == oc * 1000 + ix)).map (fun e => (e.2.1, e.2.2.1)) else none
def zkx (oc ix : Nat) : Option Nat := if ix < 1000 then (zkl.find? (fun e => e.1 == oc * 1000 + ix)).map (fun e => e.2.1) else none
def zix (oc ix : Nat) : Option Int32 := if ix < 1000 then (zil.find? (fun e => e.1 == oc * 1000 + ix)).map (fun e => e.2.1) else none
def zlx (oc ix : Nat) : Option Int64 := if ix < 1000 then (zll.find? (fun e => e.1 == oc * 1000 + ix)).map (fun e => e.2.1) else none
def zcat (st : List Value) : Nat := (st.map fun v => v.category).sum
def zo (o : Option Value) : Bool := match o with
  | some (.long _) => false
  | some (.double _) => false
  | _ => true
/-- no local of two slots -/
def znl (ls : zL) : Bool := ls.all zo
def zrv (v : Value) : Bool := match v with
  | .ref _ => true
  | .null => true
  | _ => false
def zdes (ci k : Nat) : String := match zcl[ci]? with
  | some q => (q.2.1 k).2.2.1
  | none => ""
def zfin (ci k : Nat) : Bool := match zcl[ci]? with
  | some q => (q.2.1 k).2.2.2
  | none => true
def znf (ci : Nat) : Nat := match zcl[ci]? with
  | some q => q.2.2
  | none => 0
def zdv (ci k : Nat) : Value := if zdes ci k = "I" then .int 0 else .null
def zblank (ci : Nat) : List Value := (List.range (znf ci)).map (zdv ci)
/-- what a field may take -/
def zfit (ci k : Nat) (v : Value) : Bool := if zdes ci k = "I" then (match v with
  | .int _ => true
  | _ => false) else zrv v
def zcond (c : Jvm.ClassFile.Cond) (x y : Int32) : Prop := match c with
  | .eq => x = y
  | .ne => ¬ x = y
  | .lt => x < y
  | .ge => y ≤ x
  | .gt => y < x
  | .le => x ≤ y
abbrev zMS : Type := Nat × zL × List Value × zW
abbrev zSR : Type := zMS ⊕ (Option Value ⊕ (Nat × List Value × List Value))
def zgo (pc : Nat) (ls : zL) (st : List Value) (w : zW) : zSR := .inl (pc, ls, st, w)
/-- the receiver of a call is of the method's class -/
def zrecv (w : zW) (o : Nat) (C : String) : Prop := (∃ (ci : Nat) (fs : List Value), w[o]? = some (ci, fs) ∧ ci < 11 ∧ zcn ci = C) ∨ (o = zSTR ∧ C = "java/lang/String")
def zacl (ci : Nat) : Nat := if ci = 4 then 22 else if ci = 6 then 23 else 99
/-- one instruction; a call, a return are told, not done. L, xs: the script -/
def zStep (L : Nat) (xs : Nat → Int32) (M : zPM) (i : Instr) (len pc : Nat) (ls : zL) (st : List Value) (w : zW) (sr : zSR) : Prop := match i with
  | .aconst_null => len = 1 ∧ sr = zgo (pc + 1) ls (.null :: st) w
  | .aload_n k => len = 1 ∧ ∃ v, ls[(k : Nat)]? = some (some v) ∧ zrv v = true ∧ sr = zgo (pc + 1) ls (v :: st) w
  | .aload k => len = 2 ∧ ∃ v, ls[k]? = some (some v) ∧ zrv v = true ∧ sr = zgo (pc + 2) ls (v :: st) w
  | .iload_n k => len = 1 ∧ ∃ x, ls[(k : Nat)]? = some (some (.int x)) ∧ sr = zgo (pc + 1) ls (.int x :: st) w
  | .iload k => len = 2 ∧ ∃ x, ls[k]? = some (some (.int x)) ∧ sr = zgo (pc + 2) ls (.int x :: st) w
  | .lload_n k => len = 1 ∧ ∃ x, ls[(k : Nat)]? = some (some (.long x)) ∧ sr = zgo (pc + 1) ls (.long x :: st) w
  | .lload k => len = 2 ∧ ∃ x, ls[k]? = some (some (.long x)) ∧ sr = zgo (pc + 2) ls (.long x :: st) w
  | .iconst n => len = 1 ∧ sr = zgo (pc + 1) ls (.int (Int32.ofInt n) :: st) w
  | .bipush n => len = 2 ∧ sr = zgo (pc + 2) ls (.int (Int8.ofInt n).toInt32 :: st) w
  | .sipush n => len = 3 ∧ sr = zgo (pc + 3) ls (.int (Int16.ofInt n).toInt32 :: st) w
  | .lconst n => len = 1 ∧ sr = zgo (pc + 1) ls (.long (Int64.ofNat (n : Nat)) :: st) w
  | .ldc ix => len = 2 ∧ ((∃ v, zix M.2.2.2.2 ix = some v ∧ sr = zgo (pc + 2) ls (.int v :: st) w) ∨ (M.2.2.2.2 = 1 ∧ ix = 81 ∧ sr = zgo (pc + 2) ls (.ref zSTR :: st) w))
  | .ldc_w ix => len = 3 ∧ ∃ v, zix M.2.2.2.2 ix = some v ∧ sr = zgo (pc + 3) ls (.int v :: st) w
  | .ldc2_w ix => len = 3 ∧ ∃ v, zlx M.2.2.2.2 ix = some v ∧ sr = zgo (pc + 3) ls (.long v :: st) w
  | .istore_n k => len = 1 ∧ ∃ x rest, st = .int x :: rest ∧ znl ls = true ∧ (k : Nat) < ls.length ∧ sr = zgo (pc + 1) (ls.set (k : Nat) (some (.int x))) rest w
  | .istore k => len = 2 ∧ ∃ x rest, st = .int x :: rest ∧ znl ls = true ∧ k < ls.length ∧ sr = zgo (pc + 2) (ls.set k (some (.int x))) rest w
  | .astore_n k => len = 1 ∧ ∃ v rest, st = v :: rest ∧ zrv v = true ∧ znl ls = true ∧ (k : Nat) < ls.length ∧ sr = zgo (pc + 1) (ls.set (k : Nat) (some v)) rest w
  | .astore k => len = 2 ∧ ∃ v rest, st = v :: rest ∧ zrv v = true ∧ znl ls = true ∧ k < ls.length ∧ sr = zgo (pc + 2) (ls.set k (some v)) rest w
  | .iinc k n => len = 3 ∧ ∃ x, ls[k]? = some (some (.int x)) ∧ znl ls = true ∧ sr = zgo (pc + 3) (ls.set k (some (.int (x + Int32.ofInt n)))) st w
  | .iadd => len = 1 ∧ ∃ x y rest, st = .int y :: .int x :: rest ∧ sr = zgo (pc + 1) ls (.int (x + y) :: rest) w
  | .isub => len = 1 ∧ ∃ x y rest, st = .int y :: .int x :: rest ∧ sr = zgo (pc + 1) ls (.int (x - y) :: rest) w
  | .imul => len = 1 ∧ ∃ x y rest, st = .int y :: .int x :: rest ∧ sr = zgo (pc + 1) ls (.int (x * y) :: rest) w
  | .idiv => len = 1 ∧ ∃ x y rest, st = .int y :: .int x :: rest ∧ ¬ y = 0 ∧ sr = zgo (pc + 1) ls (.int (x / y) :: rest) w
  | .irem => len = 1 ∧ ∃ x y rest, st = .int y :: .int x :: rest ∧ ¬ y = 0 ∧ sr = zgo (pc + 1) ls (.int (x - x / y * y) :: rest) w
  | .iand => len = 1 ∧ ∃ x y rest, st = .int y :: .int x :: rest ∧ sr = zgo (pc + 1) ls (.int (x &&& y) :: rest) w
  | .ior => len = 1 ∧ ∃ x y rest, st = .int y :: .int x :: rest ∧ sr = zgo (pc + 1) ls (.int (x ||| y) :: rest) w
  | .ixor => len = 1 ∧ ∃ x y rest, st = .int y :: .int x :: rest ∧ sr = zgo (pc + 1) ls (.int (x ^^^ y) :: rest) w
  | .ishl => len = 1 ∧ ∃ x y rest, st = .int y :: .int x :: rest ∧ sr = zgo (pc + 1) ls (.int (x <<< (y &&& 31)) :: rest) w
  | .ishr => len = 1 ∧ ∃ x y rest, st = .int y :: .int x :: rest ∧ sr = zgo (pc + 1) ls (.int (x >>> (y &&& 31)) :: rest) w
  | .iushr => len = 1 ∧ ∃ x y rest, st = .int y :: .int x :: rest ∧ sr = zgo (pc + 1) ls (.int (x.toUInt32 >>> (y.toUInt32 &&& Int32.toUInt32 31)).toInt32 :: rest) w
  | .ineg => len = 1 ∧ ∃ x rest, st = .int x :: rest ∧ sr = zgo (pc + 1) ls (.int (-x) :: rest) w
  | .i2l => len = 1 ∧ ∃ x rest, st = .int x :: rest ∧ sr = zgo (pc + 1) ls (.long x.toInt64 :: rest) w
  | .lcmp => len = 1 ∧ ∃ x y rest, st = .long y :: .long x :: rest ∧ sr = zgo (pc + 1) ls (.int (lg_cmp x y) :: rest) w
  | .dup => len = 1 ∧ ∃ v rest, st = v :: rest ∧ v.category = 1 ∧ sr = zgo (pc + 1) ls (v :: v :: rest) w
  | .dup2 => len = 1 ∧ ∃ v u rest, st = v :: u :: rest ∧ v.category = 1 ∧ u.category = 1 ∧ sr = zgo (pc + 1) ls (v :: u :: v :: u :: rest) w
  | .pop => len = 1 ∧ ∃ v rest, st = v :: rest ∧ v.category = 1 ∧ sr = zgo (pc + 1) ls rest w
  | .ifCond c off => len = 3 ∧ ∃ x rest, ∃ tgt : Nat, st = .int x :: rest ∧ (pc : Int) + off = (tgt : Int) ∧ ((zcond c x 0 ∧ sr = zgo tgt ls rest w) ∨ (¬ zcond c x 0 ∧ sr = zgo (pc + 3) ls rest w))
  | .if_icmp c off => len = 3 ∧ ∃ x y rest, ∃ tgt : Nat, st = .int y :: .int x :: rest ∧ (pc : Int) + off = (tgt : Int) ∧ ((zcond c x y ∧ sr = zgo tgt ls rest w) ∨ (¬ zcond c x y ∧ sr = zgo (pc + 3) ls rest w))
  | .ifnull off => len = 3 ∧ ((∃ rest, ∃ tgt : Nat, st = .null :: rest ∧ (pc : Int) + off = (tgt : Int) ∧ sr = zgo tgt ls rest w) ∨ (∃ a rest, st = .ref a :: rest ∧ sr = zgo (pc + 3) ls rest w))
  | .ifnonnull off => len = 3 ∧ ((∃ a rest, ∃ tgt : Nat, st = .ref a :: rest ∧ (pc : Int) + off = (tgt : Int) ∧ sr = zgo tgt ls rest w) ∨ (∃ rest, st = .null :: rest ∧ sr = zgo (pc + 3) ls rest w))
  | .goto off => len = 3 ∧ ∃ tgt : Nat, (pc : Int) + off = (tgt : Int) ∧ sr = zgo tgt ls st w
  | .tableswitch d lo hi offs => ∃ x rest, ∃ tgt : Nat, st = .int x :: rest ∧ (((x.toInt < lo ∨ hi < x.toInt) ∧ (pc : Int) + d = (tgt : Int)) ∨ (¬ x.toInt < lo ∧ ¬ hi < x.toInt ∧ ∃ off, offs[(x.toInt - lo).toNat]? = some off ∧ (pc : Int) + off = (tgt : Int))) ∧ sr = zgo tgt ls rest w
  | .getfield ix => len = 3 ∧ ∃ o rest ci k fs v, st = .ref o :: rest ∧ zfx M.2.2.2.2 ix = some (ci, k) ∧ w[o]? = some (ci, fs) ∧ fs[k]? = some v ∧ sr = zgo (pc + 3) ls (v :: rest) w
  | .putfield ix => len = 3 ∧ ∃ v o rest ci k fs, st = v :: .ref o :: rest ∧ zfx M.2.2.2.2 ix = some (ci, k) ∧ w[o]? = some (ci, fs) ∧ k < fs.length ∧ zfit ci k v = true ∧ (zfin ci k = true → M.1.name = "<init>" ∧ zcn ci = M.1.cls) ∧ sr = zgo (pc + 3) ls rest (w.set o (ci, fs.set k v))
  | .iaload => len = 1 ∧ ∃ j o rest, st = .int j :: .ref o :: rest ∧ ((∃ sl x, w[o]? = some (20, sl) ∧ vp_in j sl.length ∧ sl[j.toNatClampNeg]? = some (.int x) ∧ sr = zgo (pc + 1) ls (.int x :: rest) w) ∨ (o = zSCR ∧ vp_in j L ∧ sr = zgo (pc + 1) ls (.int (xs j.toNatClampNeg) :: rest) w))
  | .iastore => len = 1 ∧ ∃ x j o rest sl, st = .int x :: .int j :: .ref o :: rest ∧ w[o]? = some (20, sl) ∧ vp_in j sl.length ∧ sr = zgo (pc + 1) ls rest (w.set o (20, sl.set j.toNatClampNeg (.int x)))
  | .baload => len = 1 ∧ ∃ j o rest sl x, st = .int j :: .ref o :: rest ∧ w[o]? = some (21, sl) ∧ vp_in j sl.length ∧ sl[j.toNatClampNeg]? = some (.int x) ∧ sr = zgo (pc + 1) ls (.int x :: rest) w
  | .bastore => len = 1 ∧ ∃ x j o rest sl, st = .int x :: .int j :: .ref o :: rest ∧ (x = 0 ∨ x = 1) ∧ w[o]? = some (21, sl) ∧ vp_in j sl.length ∧ sr = zgo (pc + 1) ls rest (w.set o (21, sl.set j.toNatClampNeg (.int x)))
  | .aaload => len = 1 ∧ ∃ j o rest t sl v, st = .int j :: .ref o :: rest ∧ (t = 22 ∨ t = 23) ∧ w[o]? = some (t, sl) ∧ vp_in j sl.length ∧ sl[j.toNatClampNeg]? = some v ∧ zrv v = true ∧ sr = zgo (pc + 1) ls (v :: rest) w
  | .aastore => len = 1 ∧ ∃ q j o rest t sl ci fs, st = .ref q :: .int j :: .ref o :: rest ∧ (ci = 4 ∨ ci = 6) ∧ t = zacl ci ∧ w[q]? = some (ci, fs) ∧ w[o]? = some (t, sl) ∧ vp_in j sl.length ∧ sr = zgo (pc + 1) ls rest (w.set o (t, sl.set j.toNatClampNeg (.ref q)))
  | .arraylength => len = 1 ∧ ∃ o rest, st = .ref o :: rest ∧ ((∃ t sl, w[o]? = some (t, sl) ∧ 20 ≤ t ∧ t ≤ 23 ∧ sr = zgo (pc + 1) ls (.int (Int32.ofNat sl.length) :: rest) w) ∨ (o = zSCR ∧ sr = zgo (pc + 1) ls (.int (Int32.ofNat L) :: rest) w))
  | .new ix => len = 3 ∧ ∃ ci, zkx M.2.2.2.2 ix = some ci ∧ w.length < zlim ∧ sr = zgo (pc + 3) ls (.ref w.length :: st) (w ++ [(ci, zblank ci)])
  | .newarray at_ => len = 2 ∧ ∃ n rest t, st = .int n :: rest ∧ ¬ n < 0 ∧ n.toNatClampNeg ≤ 100000 ∧ ((at_ = .int ∧ t = 20) ∨ (at_ = .boolean ∧ t = 21)) ∧ w.length < zlim ∧ sr = zgo (pc + 2) ls (.ref w.length :: rest) (w ++ [(t, List.replicate n.toNatClampNeg (.int 0))])
  | .anewarray ix => len = 3 ∧ ∃ n rest ci, st = .int n :: rest ∧ ¬ n < 0 ∧ n.toNatClampNeg ≤ 100000 ∧ zkx M.2.2.2.2 ix = some ci ∧ (ci = 4 ∨ ci = 6) ∧ w.length < zlim ∧ sr = zgo (pc + 3) ls (.ref w.length :: rest) (w ++ [(zacl ci, List.replicate n.toNatClampNeg .null)])
  | .invokevirtual ix => len = 3 ∧ ∃ j As o rest N, zmx M.2.2.2.2 ix = some (j, 1) ∧ zpms[j]? = some N ∧ zna[j]? = some As.length ∧ st = As.reverse ++ .ref o :: rest ∧ zcat rest ≤ 8 ∧ zrecv w o N.1.cls ∧ sr = .inr (.inr (j, .ref o :: As, rest))
  | .invokespecial ix => len = 3 ∧ ((∃ o rest, zmx M.2.2.2.2 ix = some (1000, 2) ∧ st = .ref o :: rest ∧ zcat rest ≤ 8 ∧ sr = zgo (pc + 3) ls rest w) ∨ (∃ j As o rest N, zmx M.2.2.2.2 ix = some (j, 2) ∧ zpms[j]? = some N ∧ zna[j]? = some As.length ∧ N.1.name = "<init>" ∧ N.2.2.2.1 = none ∧ st = As.reverse ++ .ref o :: rest ∧ zcat rest ≤ 8 ∧ sr = .inr (.inr (j, .ref o :: As, rest))))
  | .invokestatic ix => len = 3 ∧ ((∃ x y rest, zmx M.2.2.2.2 ix = some (1001, 0) ∧ st = .int y :: .int x :: rest ∧ zcat rest ≤ 8 ∧ sr = zgo (pc + 3) ls (.int (if x < y then y else x) :: rest) w) ∨ (∃ x y rest, zmx M.2.2.2.2 ix = some (1002, 0) ∧ st = .int y :: .int x :: rest ∧ zcat rest ≤ 8 ∧ sr = zgo (pc + 3) ls (.int (if y < x then y else x) :: rest) w) ∨ (∃ j As rest N, zmx M.2.2.2.2 ix = some (j, 0) ∧ zpms[j]? = some N ∧ zna[j]? = some As.length ∧ st = As.reverse ++ rest ∧ zcat rest ≤ 8 ∧ sr = .inr (.inr (j, As, rest))))
  | .ireturn => len = 1 ∧ ∃ x, st = [.int x] ∧ (M.2.2.2.1 = some .int ∨ (M.2.2.2.1 = some .boolean ∧ (x = 0 ∨ x = 1))) ∧ sr = .inr (.inl (some (.int x)))
  | .areturn => len = 1 ∧ ∃ v n, st = [v] ∧ zrv v = true ∧ M.2.2.2.1 = some (.object n) ∧ sr = .inr (.inl (some v))
  | .return_ => len = 1 ∧ st = [] ∧ M.2.2.2.1 = none ∧ sr = .inr (.inl none)
  | _ => False
/-- a method's run: calls by E -/
def zRun (L : Nat) (xs : Nat → Int32) (E : Nat → List Value → zW → Option Value → zW → Prop) (M : zPM) : Nat → Nat → zL → List Value → zW → Option Value → zW → Prop
  | 0, _, _, _, _, _, _ => False
  | n + 1, pc, ls, st, w, r, w' => ∃ (i : Instr) (len : Nat) (sr : zSR), decode M.2.1 pc = .ok (i, len) ∧ zStep L xs M i len pc ls st w sr ∧ (match sr with
    | .inl (pc2, ls2, st2, w2) => zRun L xs E M n pc2 ls2 st2 w2 r w'
    | .inr (.inl v) => r = v ∧ w' = w
    | .inr (.inr (j, As, rest)) => ∃ v w2, E j As w v w2 ∧ zRun L xs E M n (pc + len) ls (v.toList ++ rest) w2 r w')
/-- the locals at the start -/
def zargs : List Value → zL
  | [] => []
  | v :: vs => if v.category = 2 then some v :: none :: zargs vs else some v :: zargs vs
def zini (maxL : Nat) (As : List Value) : zL := zargs As ++ List.replicate (maxL - (zargs As).length) none
def zjLen : Nat := 25
def zjCh : Nat := 27
/-- the signs of the one text -/
def zbytes : List Int32 := [114, 101, 97, 108, 109, 32, 110, 111, 117, 110, 32, 112, 108, 97, 105, 110, 32, 99, 111, 108, 111, 117, 114, 32, 104, 97, 108, 102, 32, 110, 97, 109, 101, 32, 99, 104, 97, 110, 103, 101, 32, 99, 105, 116, 105, 122, 101, 110, 32, 108, 111, 118, 101, 114, 32, 99, 114, 105, 116, 105, 99, 32, 112, 111, 101, 116, 32, 114, 97, 116, 105, 111, 110, 32, 110, 97, 109, 101, 115, 32, 116, 119, 105, 99, 101, 32, 115, 119, 101, 108, 108, 32, 109, 105, 108, 100, 32]
def zbyt (i : Nat) : Int32 := zbytes.getD i 0
/-- a method's answer, its calls at most d deep -/
def zEv (L : Nat) (xs : Nat → Int32) : Nat → Nat → List Value → zW → Option Value → zW → Prop
  | 0, _, _, _, _, _ => False
  | d + 1, j, As, w, r, w' => (j = zjLen ∧ 4 ≤ d ∧ As = [.ref zSTR] ∧ r = some (.int 97) ∧ w' = w) ∨ (j = zjCh ∧ 4 ≤ d ∧ ∃ i : Nat, i < 97 ∧ As = [.ref zSTR, .int (nI i)] ∧ r = some (.int (zbyt i)) ∧ w' = w) ∨ ∃ (M : zPM) (n : Nat), zpms[j]? = some M ∧ M.2.2.2.2 ≠ 99 ∧ (zargs As).length ≤ M.2.2.1 ∧ zRun L xs (zEv L xs d) M n 0 (zini M.2.2.1 As) [] w r w'
