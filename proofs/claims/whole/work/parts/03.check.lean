-- ===== the tables hold: each entry's words stand in lw_tbl =====
def zTB : List Cond := lw_tbl.filter goodWord
def znest (w : Cond) : Bool := match w with
  | .fieldLinkNest .. => true
  | .methodLinkNest .. => true
  | _ => false
def zNW : List Cond := lw_tbl.filter znest
def zok (k : Nat) (w : Cond) : Bool := decide (lw_tbl[k]? = some w) && goodWord w
def zokn (k : Nat) (w : Cond) : Bool := decide (lw_tbl[k]? = some w) && znest w
theorem zok_in {k : Nat} {w : Cond} (h : zok k w = true) : w ∈ zTB := by
  simp only [zok, Bool.and_eq_true, decide_eq_true_eq] at h
  exact List.mem_filter.mpr ⟨List.mem_of_getElem? h.1, h.2⟩
theorem zokn_in {k : Nat} {w : Cond} (h : zokn k w = true) : w ∈ zNW := by
  simp only [zokn, Bool.and_eq_true, decide_eq_true_eq] at h
  exact List.mem_filter.mpr ⟨List.mem_of_getElem? h.1, h.2⟩
def zmk (M : zPM) : Cond := .code M.1 M.2.1 M.2.2.1 M.2.2.2.1
set_option maxRecDepth 100000 in
theorem zcd_1 : zpms_1.map zmk = tables_1_1.filter k2_isCode := rfl
set_option maxRecDepth 100000 in
theorem zcd_2 : zpms_2.map zmk = tables_1_2.filter k2_isCode := rfl
set_option maxRecDepth 100000 in
theorem zcd_3 : zpms_3.map zmk = tables_1_3.filter k2_isCode := rfl
set_option maxRecDepth 100000 in
theorem zcd_4 : zpms_4.map zmk = tables_1_4.filter k2_isCode := rfl
set_option maxRecDepth 100000 in
theorem zcd_5 : zpms_5.map zmk = tables_1_5.filter k2_isCode := rfl
set_option maxRecDepth 100000 in
theorem zcd_6 : zpms_6.map zmk = tables_1_6.filter k2_isCode := rfl
theorem zcode_in {M : zPM} (h : M ∈ zpms) : zmk M ∈ zTB := by
  have key : ∀ {l : List zPM} {t : List Cond}, l.map zmk = t.filter k2_isCode → M ∈ l → zmk M ∈ t := fun e hM => (List.mem_filter.mp (e ▸ List.mem_map.mpr ⟨M, hM, rfl⟩)).1
  refine List.mem_filter.mpr ⟨?_, rfl⟩
  show zmk M ∈ k2_sels lw_privs ++ (tables_1_1 ++ (tables_1_2 ++ (tables_1_3 ++ (tables_1_4 ++ (tables_1_5 ++ tables_1_6)))))
  have h : M ∈ zpms_1 ++ (zpms_2 ++ (zpms_3 ++ (zpms_4 ++ (zpms_5 ++ zpms_6)))) := h
  simp only [List.mem_append] at h ⊢
  rcases h with h | h | h | h | h | h
  · exact Or.inr (Or.inl (key zcd_1 h))
  · exact Or.inr (Or.inr (Or.inl (key zcd_2 h)))
  · exact Or.inr (Or.inr (Or.inr (Or.inl (key zcd_3 h))))
  · exact Or.inr (Or.inr (Or.inr (Or.inr (Or.inl (key zcd_4 h)))))
  · exact Or.inr (Or.inr (Or.inr (Or.inr (Or.inr (Or.inl (key zcd_5 h))))))
  · exact Or.inr (Or.inr (Or.inr (Or.inr (Or.inr (Or.inr (key zcd_6 h))))))
def zflW (e : Nat × Nat × Nat × Nat × Option String) : Bool := match zcl[e.2.1]? with
  | some q => decide (e.2.2.1 < q.2.2) && (match e.2.2.2.2 with
    | none => zok e.2.2.2.1 (.fieldLink (zcn (e.1 / 1000)) (e.1 % 1000) q.1 (q.2.1 e.2.2.1).2.1 (q.2.1 e.2.2.1).2.2.1)
    | some h => zokn e.2.2.2.1 (.fieldLinkNest (zcn (e.1 / 1000)) (e.1 % 1000) q.1 (q.2.1 e.2.2.1).2.1 (q.2.1 e.2.2.1).2.2.1 h))
  | none => false
set_option maxRecDepth 100000 in
theorem zfl_ok : zfl.all zflW = true := by decide +kernel
def zklW (e : Nat × Nat × Nat) : Bool := decide (e.2.1 < 11) && zok e.2.2 (.classLink (zcn (e.1 / 1000)) (e.1 % 1000) (zcn e.2.1))
set_option maxRecDepth 100000 in
theorem zkl_ok : zkl.all zklW = true := by decide +kernel
def zilW (e : Nat × Int32 × Nat) : Bool := zok e.2.2 (.constant (zcn (e.1 / 1000)) (e.1 % 1000) e.2.1)
set_option maxRecDepth 100000 in
theorem zil_ok : zil.all zilW = true := by decide +kernel
def zllW (e : Nat × Int64 × Nat) : Bool := zok e.2.2 (.constantLong (zcn (e.1 / 1000)) (e.1 % 1000) e.2.1)
set_option maxRecDepth 100000 in
theorem zll_ok : zll.all zllW = true := by decide +kernel
def zkpW (ci : Nat) : Bool := match zcl[ci]?, zkp[ci]? with
  | some q, some e => decide (q.1 = zcn ci) && zok e.1 (.instantiable q.1 q.2.2) && zok e.2.1 (.initialized q.1) && (List.range q.2.2).all (fun k => match e.2.2[k]? with
    | some pl => zok pl (u_lay q.1 q.2.1 k) && decide ((q.2.1 k).1 = q.1)
    | none => false)
  | _, _ => false
set_option maxRecDepth 100000 in
theorem zkp_ok : (List.range 11).all zkpW = true := by decide +kernel
def zmpW (j : Nat) : Bool := match zpms[j]?, zmp[j]?, zna[j]? with
  | some M, some e, some n => if decide (M.2.2.2.2 = 99) && !(decide (j = zjLen) || decide (j = zjCh)) then true else decide (M.2.2.1 ≤ 16) && decide (M.1.cls ≠ "java/lang/invoke/MethodHandle") && decide (M.1.cls ≠ "java/lang/invoke/VarHandle") && plainName M.1.cls && decide ((parseMethodDescriptor M.1.desc).map (fun d => d.parameters.length) = some n) && zok e.2 (.initialized M.1.cls) && (decide (M.2.2.2.2 = 99) || decide (zcn M.2.2.2.2 = M.1.cls))
  | _, _, _ => false
set_option maxRecDepth 100000 in
theorem zmp_ok : (List.range 231).all zmpW = true := by decide +kernel
def zmlY (j : Nat) : Option MethodName := if j = 1000 then some Lib.objectInit else if j = 1001 then some Lib.Math.max.name else if j = 1002 then some Lib.Math.min.name else (zpms[j]?).map (fun M => M.1)
def zmlW1 (e : Nat × Nat × Nat × Nat × Nat × Nat × Option String) : Bool := match zmlY e.2.1 with
  | none => false
  | some y => match e.2.2.2.2.2.2 with
    | none => zok e.2.2.2.1 (.methodLink (zcn (e.1 / 1000)) (e.1 % 1000) y)
    | some h => decide (e.2.1 < 1000) && zokn e.2.2.2.1 (.methodLinkNest (zcn (e.1 / 1000)) (e.1 % 1000) y h)
def zmlW2 (e : Nat × Nat × Nat × Nat × Nat × Nat × Option String) : Bool := match zmlY e.2.1 with
  | none => false
  | some y => if e.2.2.1 = 0 then zok e.2.2.2.2.1 (.static y) else zok e.2.2.2.2.1 (.instanceMethod y)
def zmlW3 (e : Nat × Nat × Nat × Nat × Nat × Nat × Option String) : Bool := match zmlY e.2.1 with
  | none => false
  | some y => if e.2.2.1 = 1 then zok e.2.2.2.2.2.1 (.selects y.cls y y) else true
def zmlW4 (e : Nat × Nat × Nat × Nat × Nat × Nat × Option String) : Bool := match zmlY e.2.1, zmp[e.2.1]? with
  | some y, some q => zok q.2 (.initialized y.cls)
  | _, _ => decide (1000 ≤ e.2.1)
set_option maxRecDepth 100000 in
theorem zml_ok1 : zml.all zmlW1 = true := by decide +kernel
set_option maxRecDepth 100000 in
theorem zml_ok2 : zml.all zmlW2 = true := by decide +kernel
set_option maxRecDepth 100000 in
theorem zml_ok3 : zml.all zmlW3 = true := by decide +kernel
set_option maxRecDepth 100000 in
theorem zml_ok4 : zml.all zmlW4 = true := by decide +kernel
