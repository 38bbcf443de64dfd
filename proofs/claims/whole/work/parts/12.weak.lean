-- ===== a run doesn't mind more locals =====
def zlp (a b : zL) : Prop := ∀ i : Nat, (a[i]? = none → b[i]? = none) ∧ (∀ v, a[i]? = some (some v) → b[i]? = some (some v)) ∧ (a[i]? = some none → ∃ o, b[i]? = some o ∧ zo o = true)
theorem zle_lp : ∀ {a b : zL}, zle a b → zlp a b
  | [], [], _ => fun i => ⟨fun _ => by simp, fun v h => by simp at h, fun h => by simp at h⟩
  | some v :: a, b :: c, h => fun i => by
    obtain ⟨rfl, h2⟩ := h
    cases i with
    | zero => exact ⟨fun h => by simp at h, fun u h => by simpa using h, fun h => by simp at h⟩
    | succ i => simpa using zle_lp h2 i
  | none :: a, b :: c, h => fun i => by
    obtain ⟨h1, h2⟩ := h
    cases i with
    | zero => exact ⟨fun h => by simp at h, fun u h => by simp at h, fun _ => ⟨b, by simp, h1⟩⟩
    | succ i => simpa using zle_lp h2 i
  | [], _ :: _, h => False.elim h
  | some _ :: _, [], h => False.elim h
  | none :: _, [], h => False.elim h
theorem zlp_len {a b : zL} (h : zlp a b) : a.length = b.length := by
  rcases Nat.lt_trichotomy a.length b.length with q | q | q
  · have h1 := (h a.length).1 (List.getElem?_eq_none (Nat.le_refl _))
    rw [List.getElem?_eq_getElem q] at h1
    cases h1
  · exact q
  · have h1 := List.getElem?_eq_getElem q
    cases hc : a[b.length] with
    | none =>
      rw [hc] at h1
      obtain ⟨o, h2, -⟩ := (h b.length).2.2 h1
      rw [List.getElem?_eq_none (Nat.le_refl _)] at h2
      cases h2
    | some v =>
      rw [hc] at h1
      have h2 := (h b.length).2.1 v h1
      rw [List.getElem?_eq_none (Nat.le_refl _)] at h2
      cases h2
theorem zlp_nl {a b : zL} (h : zlp a b) (ha : znl a = true) : znl b = true := by
  refine List.all_eq_true.mpr fun o ho => ?_
  obtain ⟨i, hi⟩ := List.getElem?_of_mem ho
  cases hc : a[i]? with
  | none =>
    rw [(h i).1 hc] at hi
    cases hi
  | some x =>
    cases x with
    | none =>
      obtain ⟨o2, h2, h3⟩ := (h i).2.2 hc
      cases hi.symm.trans h2
      exact h3
    | some v =>
      cases hi.symm.trans ((h i).2.1 v hc)
      exact List.all_eq_true.mp ha _ (List.mem_of_getElem? hc)
theorem zlp_set {a b : zL} (h : zlp a b) (k : Nat) (v : Value) : zlp (a.set k (some v)) (b.set k (some v)) := by
  have hl := zlp_len h
  intro i
  rw [List.getElem?_set, List.getElem?_set]
  by_cases hk : k = i
  · subst hk
    rw [if_pos rfl, if_pos rfl]
    by_cases hlt : k < a.length
    · rw [if_pos hlt, if_pos (by omega)]
      exact ⟨fun h => (by cases h), fun u h => h, fun h => (by cases h)⟩
    · rw [if_neg hlt, if_neg (by omega)]
      exact ⟨fun _ => rfl, fun u h => (by cases h), fun h => (by cases h)⟩
  · rw [if_neg hk, if_neg hk]
    exact h i
theorem zweak {L : Nat} {xs : Nat → Int32} {M : zPM} {i : Instr} {len pc : Nat} {a b : zL} {st : List Value} {w : zW} {pc2 : Nat} {a2 : zL} {st2 : List Value} {w2 : zW} (hp : zlp a b) (h : zStep L xs M i len pc a st w (.inl (pc2, a2, st2, w2))) : ∃ b2, zlp a2 b2 ∧ zStep L xs M i len pc b st w (.inl (pc2, b2, st2, w2)) := by
  have hl := zlp_len hp
  cases i
  case aconst_null =>
    obtain ⟨h1, h⟩ := h; obtain ⟨rfl, rfl, rfl, rfl⟩ := zgo_inj h; exact ⟨b, hp, h1, rfl⟩
  case aload_n k => obtain ⟨h1, v, h2, h3, h⟩ := h; obtain ⟨rfl, rfl, rfl, rfl⟩ := zgo_inj h; exact ⟨b, hp, h1, v, (hp _).2.1 _ h2, h3, rfl⟩
  case aload k => obtain ⟨h1, v, h2, h3, h⟩ := h; obtain ⟨rfl, rfl, rfl, rfl⟩ := zgo_inj h; exact ⟨b, hp, h1, v, (hp _).2.1 _ h2, h3, rfl⟩
  case iload_n k => obtain ⟨h1, v, h2, h⟩ := h; obtain ⟨rfl, rfl, rfl, rfl⟩ := zgo_inj h; exact ⟨b, hp, h1, v, (hp _).2.1 _ h2, rfl⟩
  case iload k => obtain ⟨h1, v, h2, h⟩ := h; obtain ⟨rfl, rfl, rfl, rfl⟩ := zgo_inj h; exact ⟨b, hp, h1, v, (hp _).2.1 _ h2, rfl⟩
  case lload_n k => obtain ⟨h1, v, h2, h⟩ := h; obtain ⟨rfl, rfl, rfl, rfl⟩ := zgo_inj h; exact ⟨b, hp, h1, v, (hp _).2.1 _ h2, rfl⟩
  case lload k => obtain ⟨h1, v, h2, h⟩ := h; obtain ⟨rfl, rfl, rfl, rfl⟩ := zgo_inj h; exact ⟨b, hp, h1, v, (hp _).2.1 _ h2, rfl⟩
  case iconst n => obtain ⟨h1, h⟩ := h; obtain ⟨rfl, rfl, rfl, rfl⟩ := zgo_inj h; exact ⟨b, hp, h1, rfl⟩
  case bipush n => obtain ⟨h1, h⟩ := h; obtain ⟨rfl, rfl, rfl, rfl⟩ := zgo_inj h; exact ⟨b, hp, h1, rfl⟩
  case sipush n => obtain ⟨h1, h⟩ := h; obtain ⟨rfl, rfl, rfl, rfl⟩ := zgo_inj h; exact ⟨b, hp, h1, rfl⟩
  case lconst n => obtain ⟨h1, h⟩ := h; obtain ⟨rfl, rfl, rfl, rfl⟩ := zgo_inj h; exact ⟨b, hp, h1, rfl⟩
  case ldc ix =>
    obtain ⟨h1, ⟨v, h2, h⟩ | ⟨h2, h3, h⟩⟩ := h
    · obtain ⟨rfl, rfl, rfl, rfl⟩ := zgo_inj h; exact ⟨b, hp, h1, Or.inl ⟨v, h2, rfl⟩⟩
    · obtain ⟨rfl, rfl, rfl, rfl⟩ := zgo_inj h; exact ⟨b, hp, h1, Or.inr ⟨h2, h3, rfl⟩⟩
  case ldc_w ix => obtain ⟨h1, v, h2, h⟩ := h; obtain ⟨rfl, rfl, rfl, rfl⟩ := zgo_inj h; exact ⟨b, hp, h1, v, h2, rfl⟩
  case ldc2_w ix => obtain ⟨h1, v, h2, h⟩ := h; obtain ⟨rfl, rfl, rfl, rfl⟩ := zgo_inj h; exact ⟨b, hp, h1, v, h2, rfl⟩
  case istore_n k => obtain ⟨h1, x, rest, h2, h3, h4, h⟩ := h; obtain ⟨rfl, rfl, rfl, rfl⟩ := zgo_inj h; exact ⟨_, zlp_set hp _ _, h1, x, _, h2, zlp_nl hp h3, by omega, rfl⟩
  case istore k => obtain ⟨h1, x, rest, h2, h3, h4, h⟩ := h; obtain ⟨rfl, rfl, rfl, rfl⟩ := zgo_inj h; exact ⟨_, zlp_set hp _ _, h1, x, _, h2, zlp_nl hp h3, by omega, rfl⟩
  case astore_n k => obtain ⟨h1, x, rest, h2, h0, h3, h4, h⟩ := h; obtain ⟨rfl, rfl, rfl, rfl⟩ := zgo_inj h; exact ⟨_, zlp_set hp _ _, h1, x, _, h2, h0, zlp_nl hp h3, by omega, rfl⟩
  case astore k => obtain ⟨h1, x, rest, h2, h0, h3, h4, h⟩ := h; obtain ⟨rfl, rfl, rfl, rfl⟩ := zgo_inj h; exact ⟨_, zlp_set hp _ _, h1, x, _, h2, h0, zlp_nl hp h3, by omega, rfl⟩
  case iinc k n => obtain ⟨h1, x, h2, h3, h⟩ := h; obtain ⟨rfl, rfl, rfl, rfl⟩ := zgo_inj h; exact ⟨_, zlp_set hp _ _, h1, x, (hp _).2.1 _ h2, zlp_nl hp h3, rfl⟩
  case iadd => obtain ⟨h1, x, y, rest, h2, h⟩ := h; obtain ⟨rfl, rfl, rfl, rfl⟩ := zgo_inj h; exact ⟨b, hp, h1, x, y, rest, h2, rfl⟩
  case isub => obtain ⟨h1, x, y, rest, h2, h⟩ := h; obtain ⟨rfl, rfl, rfl, rfl⟩ := zgo_inj h; exact ⟨b, hp, h1, x, y, rest, h2, rfl⟩
  case imul => obtain ⟨h1, x, y, rest, h2, h⟩ := h; obtain ⟨rfl, rfl, rfl, rfl⟩ := zgo_inj h; exact ⟨b, hp, h1, x, y, rest, h2, rfl⟩
  case idiv => obtain ⟨h1, x, y, rest, h2, h3, h⟩ := h; obtain ⟨rfl, rfl, rfl, rfl⟩ := zgo_inj h; exact ⟨b, hp, h1, x, y, rest, h2, h3, rfl⟩
  case irem => obtain ⟨h1, x, y, rest, h2, h3, h⟩ := h; obtain ⟨rfl, rfl, rfl, rfl⟩ := zgo_inj h; exact ⟨b, hp, h1, x, y, rest, h2, h3, rfl⟩
  case iand => obtain ⟨h1, x, y, rest, h2, h⟩ := h; obtain ⟨rfl, rfl, rfl, rfl⟩ := zgo_inj h; exact ⟨b, hp, h1, x, y, rest, h2, rfl⟩
  case ior => obtain ⟨h1, x, y, rest, h2, h⟩ := h; obtain ⟨rfl, rfl, rfl, rfl⟩ := zgo_inj h; exact ⟨b, hp, h1, x, y, rest, h2, rfl⟩
  case ixor => obtain ⟨h1, x, y, rest, h2, h⟩ := h; obtain ⟨rfl, rfl, rfl, rfl⟩ := zgo_inj h; exact ⟨b, hp, h1, x, y, rest, h2, rfl⟩
  case ishl => obtain ⟨h1, x, y, rest, h2, h⟩ := h; obtain ⟨rfl, rfl, rfl, rfl⟩ := zgo_inj h; exact ⟨b, hp, h1, x, y, rest, h2, rfl⟩
  case ishr => obtain ⟨h1, x, y, rest, h2, h⟩ := h; obtain ⟨rfl, rfl, rfl, rfl⟩ := zgo_inj h; exact ⟨b, hp, h1, x, y, rest, h2, rfl⟩
  case iushr => obtain ⟨h1, x, y, rest, h2, h⟩ := h; obtain ⟨rfl, rfl, rfl, rfl⟩ := zgo_inj h; exact ⟨b, hp, h1, x, y, rest, h2, rfl⟩
  case ineg => obtain ⟨h1, x, rest, h2, h⟩ := h; obtain ⟨rfl, rfl, rfl, rfl⟩ := zgo_inj h; exact ⟨b, hp, h1, x, rest, h2, rfl⟩
  case i2l => obtain ⟨h1, x, rest, h2, h⟩ := h; obtain ⟨rfl, rfl, rfl, rfl⟩ := zgo_inj h; exact ⟨b, hp, h1, x, rest, h2, rfl⟩
  case lcmp => obtain ⟨h1, x, y, rest, h2, h⟩ := h; obtain ⟨rfl, rfl, rfl, rfl⟩ := zgo_inj h; exact ⟨b, hp, h1, x, y, rest, h2, rfl⟩
  case dup => obtain ⟨h1, v, rest, h2, h3, h⟩ := h; obtain ⟨rfl, rfl, rfl, rfl⟩ := zgo_inj h; exact ⟨b, hp, h1, v, rest, h2, h3, rfl⟩
  case dup2 => obtain ⟨h1, v, u, rest, h2, h3, h4, h⟩ := h; obtain ⟨rfl, rfl, rfl, rfl⟩ := zgo_inj h; exact ⟨b, hp, h1, v, u, rest, h2, h3, h4, rfl⟩
  case pop => obtain ⟨h1, v, rest, h2, h3, h⟩ := h; obtain ⟨rfl, rfl, rfl, rfl⟩ := zgo_inj h; exact ⟨b, hp, h1, v, _, h2, h3, rfl⟩
  case ifCond cd off =>
    obtain ⟨h1, x, rest, tgt, h2, h3, ⟨h4, h⟩ | ⟨h4, h⟩⟩ := h
    · obtain ⟨rfl, rfl, rfl, rfl⟩ := zgo_inj h; exact ⟨b, hp, h1, x, _, _, h2, h3, Or.inl ⟨h4, rfl⟩⟩
    · obtain ⟨rfl, rfl, rfl, rfl⟩ := zgo_inj h; exact ⟨b, hp, h1, x, _, _, h2, h3, Or.inr ⟨h4, rfl⟩⟩
  case if_icmp cd off =>
    obtain ⟨h1, x, y, rest, tgt, h2, h3, ⟨h4, h⟩ | ⟨h4, h⟩⟩ := h
    · obtain ⟨rfl, rfl, rfl, rfl⟩ := zgo_inj h; exact ⟨b, hp, h1, x, y, _, _, h2, h3, Or.inl ⟨h4, rfl⟩⟩
    · obtain ⟨rfl, rfl, rfl, rfl⟩ := zgo_inj h; exact ⟨b, hp, h1, x, y, _, _, h2, h3, Or.inr ⟨h4, rfl⟩⟩
  case ifnull off =>
    obtain ⟨h1, ⟨rest, tgt, h2, h3, h⟩ | ⟨q, rest, h2, h⟩⟩ := h
    · obtain ⟨rfl, rfl, rfl, rfl⟩ := zgo_inj h; exact ⟨b, hp, h1, Or.inl ⟨_, _, h2, h3, rfl⟩⟩
    · obtain ⟨rfl, rfl, rfl, rfl⟩ := zgo_inj h; exact ⟨b, hp, h1, Or.inr ⟨q, _, h2, rfl⟩⟩
  case ifnonnull off =>
    obtain ⟨h1, ⟨q, rest, tgt, h2, h3, h⟩ | ⟨rest, h2, h⟩⟩ := h
    · obtain ⟨rfl, rfl, rfl, rfl⟩ := zgo_inj h; exact ⟨b, hp, h1, Or.inl ⟨q, _, _, h2, h3, rfl⟩⟩
    · obtain ⟨rfl, rfl, rfl, rfl⟩ := zgo_inj h; exact ⟨b, hp, h1, Or.inr ⟨_, h2, rfl⟩⟩
  case goto off => obtain ⟨h1, tgt, h2, h⟩ := h; obtain ⟨rfl, rfl, rfl, rfl⟩ := zgo_inj h; exact ⟨b, hp, h1, _, h2, rfl⟩
  case tableswitch d lo hi offs => obtain ⟨x, rest, tgt, h2, h3, h⟩ := h; obtain ⟨rfl, rfl, rfl, rfl⟩ := zgo_inj h; exact ⟨b, hp, x, _, _, h2, h3, rfl⟩
  case getfield ix => obtain ⟨h1, o, rest, ci, k, fs, v, h2, h3, h4, h5, h⟩ := h; obtain ⟨rfl, rfl, rfl, rfl⟩ := zgo_inj h; exact ⟨b, hp, h1, o, rest, ci, k, fs, v, h2, h3, h4, h5, rfl⟩
  case putfield ix => obtain ⟨h1, v, o, rest, ci, k, fs, h2, h3, h4, h5, h6, h7, h⟩ := h; obtain ⟨rfl, rfl, rfl, rfl⟩ := zgo_inj h; exact ⟨b, hp, h1, v, o, _, ci, k, fs, h2, h3, h4, h5, h6, h7, rfl⟩
  case iaload =>
    obtain ⟨h1, j, o, rest, h2, ⟨sl, x, h3, h4, h5, h⟩ | ⟨h3, h4, h⟩⟩ := h
    · obtain ⟨rfl, rfl, rfl, rfl⟩ := zgo_inj h; exact ⟨b, hp, h1, j, o, rest, h2, Or.inl ⟨sl, x, h3, h4, h5, rfl⟩⟩
    · obtain ⟨rfl, rfl, rfl, rfl⟩ := zgo_inj h; exact ⟨b, hp, h1, j, o, rest, h2, Or.inr ⟨h3, h4, rfl⟩⟩
  case iastore => obtain ⟨h1, x, j, o, rest, sl, h2, h3, h4, h⟩ := h; obtain ⟨rfl, rfl, rfl, rfl⟩ := zgo_inj h; exact ⟨b, hp, h1, x, j, o, _, sl, h2, h3, h4, rfl⟩
  case baload => obtain ⟨h1, j, o, rest, sl, x, h2, h3, h4, h5, h⟩ := h; obtain ⟨rfl, rfl, rfl, rfl⟩ := zgo_inj h; exact ⟨b, hp, h1, j, o, rest, sl, x, h2, h3, h4, h5, rfl⟩
  case bastore => obtain ⟨h1, x, j, o, rest, sl, h2, h0, h3, h4, h⟩ := h; obtain ⟨rfl, rfl, rfl, rfl⟩ := zgo_inj h; exact ⟨b, hp, h1, x, j, o, _, sl, h2, h0, h3, h4, rfl⟩
  case aaload => obtain ⟨h1, j, o, rest, t, sl, v, h2, h3, h4, h5, h6, h7, h⟩ := h; obtain ⟨rfl, rfl, rfl, rfl⟩ := zgo_inj h; exact ⟨b, hp, h1, j, o, rest, t, sl, v, h2, h3, h4, h5, h6, h7, rfl⟩
  case aastore => obtain ⟨h1, q, j, o, rest, t, sl, ci, fs, h2, h3, h4, h5, h6, h7, h⟩ := h; obtain ⟨rfl, rfl, rfl, rfl⟩ := zgo_inj h; exact ⟨b, hp, h1, q, j, o, _, t, sl, ci, fs, h2, h3, h4, h5, h6, h7, rfl⟩
  case arraylength =>
    obtain ⟨h1, o, rest, h2, ⟨t, sl, h3, h4, h5, h⟩ | ⟨h3, h⟩⟩ := h
    · obtain ⟨rfl, rfl, rfl, rfl⟩ := zgo_inj h; exact ⟨b, hp, h1, o, rest, h2, Or.inl ⟨t, sl, h3, h4, h5, rfl⟩⟩
    · obtain ⟨rfl, rfl, rfl, rfl⟩ := zgo_inj h; exact ⟨b, hp, h1, o, rest, h2, Or.inr ⟨h3, rfl⟩⟩
  case new ix => obtain ⟨h1, ci, h2, h3, h⟩ := h; obtain ⟨rfl, rfl, rfl, rfl⟩ := zgo_inj h; exact ⟨b, hp, h1, ci, h2, h3, rfl⟩
  case newarray q => obtain ⟨h1, n, rest, t, h2, h3, h4, h5, h6, h⟩ := h; obtain ⟨rfl, rfl, rfl, rfl⟩ := zgo_inj h; exact ⟨b, hp, h1, n, rest, t, h2, h3, h4, h5, h6, rfl⟩
  case anewarray ix => obtain ⟨h1, n, rest, ci, h2, h3, h4, h5, h6, h7, h⟩ := h; obtain ⟨rfl, rfl, rfl, rfl⟩ := zgo_inj h; exact ⟨b, hp, h1, n, rest, ci, h2, h3, h4, h5, h6, h7, rfl⟩
  case invokevirtual ix => obtain ⟨-, j, As, o, rest, N, -, -, -, -, -, -, h⟩ := h; cases h
  case invokespecial ix =>
    rcases h with ⟨h1, ⟨o, rest, h2, h3, h4, h⟩ | ⟨j, As, o, rest, N, -, -, -, -, -, -, -, h⟩⟩
    · obtain ⟨rfl, rfl, rfl, rfl⟩ := zgo_inj h; exact ⟨b, hp, h1, Or.inl ⟨o, _, h2, h3, h4, rfl⟩⟩
    · cases h
  case invokestatic ix =>
    rcases h with ⟨h1, ⟨x, y, rest, h2, h3, h4, h⟩ | ⟨x, y, rest, h2, h3, h4, h⟩ | ⟨j, As, rest, N, -, -, -, -, -, h⟩⟩
    · obtain ⟨rfl, rfl, rfl, rfl⟩ := zgo_inj h; exact ⟨b, hp, h1, Or.inl ⟨x, y, rest, h2, h3, h4, rfl⟩⟩
    · obtain ⟨rfl, rfl, rfl, rfl⟩ := zgo_inj h; exact ⟨b, hp, h1, Or.inr (Or.inl ⟨x, y, rest, h2, h3, h4, rfl⟩)⟩
    · cases h
  case ireturn => obtain ⟨-, x, -, -, h⟩ := h; cases h
  case areturn => obtain ⟨-, v, n, -, -, -, h⟩ := h; cases h
  case return_ => obtain ⟨-, -, -, h⟩ := h; cases h
  all_goals exact False.elim h
theorem zweak2 {L : Nat} {xs : Nat → Int32} {M : zPM} {i : Instr} {len pc : Nat} {a b : zL} {st : List Value} {w : zW} {x : Option Value ⊕ (Nat × List Value × List Value)} (h : zStep L xs M i len pc a st w (.inr x)) : zStep L xs M i len pc b st w (.inr x) := by
  cases x with
  | inl v =>
    rcases zretI h with rfl | rfl | rfl
    · exact h
    · exact h
    · exact h
  | inr q =>
    rcases zno h with ⟨ix, rfl⟩ | ⟨ix, rfl⟩ | ⟨ix, rfl⟩
    · exact h
    · rcases h with ⟨h1, ⟨o, rest, -, -, -, h⟩ | h⟩
      · exact (zgo_no h).elim
      · exact ⟨h1, Or.inr h⟩
    · rcases h with ⟨h1, ⟨x, y, rest, -, -, -, h⟩ | ⟨x, y, rest, -, -, -, h⟩ | h⟩
      · exact (zgo_no h).elim
      · exact (zgo_no h).elim
      · exact ⟨h1, Or.inr (Or.inr h)⟩
theorem zrun_weak {L : Nat} {xs : Nat → Int32} {E : Nat → List Value → zW → Option Value → zW → Prop} {M : zPM} {r : Option Value} {w' : zW} : ∀ (n pc : Nat) (a b : zL) (st : List Value) (w : zW), zlp a b → zRun L xs E M n pc a st w r w' → zRun L xs E M n pc b st w r w' := by
  intro n
  induction n with
  | zero => intro pc a b st w _ h; exact False.elim h
  | succ n ih =>
    intro pc a b st w hp h
    obtain ⟨i, len, sr, hd, hs, hm⟩ := h
    match sr, hs, hm with
    | .inl (pc2, a2, st2, w2), hs, hm =>
      obtain ⟨b2, hp2, hs2⟩ := zweak hp hs
      exact ⟨i, len, _, hd, hs2, ih _ _ _ _ _ hp2 hm⟩
    | .inr (.inl v), hs, hm => exact ⟨i, len, _, hd, zweak2 hs, hm⟩
    | .inr (.inr (j, As, rest)), hs, hm =>
      obtain ⟨v, w2, he, hr⟩ := hm
      exact ⟨i, len, _, hd, zweak2 hs, v, w2, he, ih _ _ _ _ _ hp hr⟩
