section WPS
abbrev wTy (cI _cC _cL : Nat) : List (ClassId × FieldType) := [(cI, .int)]
abbrev wT : Type := String × Nat × String × Nat
/-- what stands outside of every world and isn't written: constant arrays, statics, texts, what a throw reads -/
def wAmb (cst : List wC) (stf : wF) (sts : List wT) (A : Nat → Prop) (U : State) (H : Heap) : Prop :=
  (∀ (k : Nat) (q : wC), cst[k]? = some q → va_T q.2.1 q.1 q.2.2.1 (fun j => .int (q.2.2.2 j)) A U H) ∧ (∀ (k : Nat) (q : String × String × String), wSN[k]? = some q → va_Z q.1 q.2.1 q.2.2 (.ref (stf k)) A U H) ∧
  (∀ (k : Nat) (q : wT), sts[k]? = some q → vk_R q.1 q.2.1 q.2.2.1 q.2.2.2 U) ∧ vx_Zq Bundle.tN "UNASSIGNED_STACK" Bundle.steD A U H ∧ vx_Zq Bundle.tN "SUPPRESSED_SENTINEL" Bundle.listD A U H ∧
  (∀ q ∈ wNM, va_Nw (.methodLinkNest q.1 q.2.1 q.2.2.1 q.2.2.2) U) ∧ (∀ q ∈ wNF, va_Nw (.fieldLinkNest q.1 q.2.1 q.2.2.1 q.2.2.2.1 q.2.2.2.2.1 q.2.2.2.2.2) U)
theorem wAmb.kept {cst : List wC} {stf : wF} {sts : List wT} {A : Nat → Prop} {U : State} {H H1 : Heap} (h : wAmb cst stf sts A U H) (hq : ∀ a : Nat, a < H.size → ¬ A a → H1[a]? = H[a]?) : wAmb cst stf sts A U H1 :=
  ⟨fun k q e => (h.1 k q e).kept hq, fun k q e => (h.2.1 k q e).kept hq, h.2.2.1, h.2.2.2.1.kept hq, h.2.2.2.2.1.kept hq, h.2.2.2.2.2⟩
theorem wAmb.narrow {cst : List wC} {stf : wF} {sts : List wT} {A B : Nat → Prop} {U : State} {H : Heap} (h : wAmb cst stf sts A U H) (hAB : ∀ q, B q → A q) : wAmb cst stf sts B U H :=
  ⟨fun k q e => (h.1 k q e).narrow hAB, fun k q e => (h.2.1 k q e).narrow hAB, h.2.2.1, h.2.2.2.1.narrow hAB, h.2.2.2.2.1.narrow hAB, h.2.2.2.2.2⟩
theorem wAmb.warm {cst : List wC} {stf : wF} {sts : List wT} {A : Nat → Prop} {s U : State} {H : Heap} (hW : s.WarmedH U.vm) (h : wAmb cst stf sts A s H) : wAmb cst stf sts A U H :=
  ⟨fun k q e => (h.1 k q e).moved hW.alike, fun k q e => (h.2.1 k q e).moved hW.alike, fun k q e => (h.2.2.1 k q e).warm hW, h.2.2.2.1.moved hW.alike, h.2.2.2.2.1.moved hW.alike, fun q e => (h.2.2.2.2.2.1 q e).warmM hW, fun q e => (h.2.2.2.2.2.2 q e).warmF hW⟩
theorem wAmb.same {cst : List wC} {stf : wF} {sts : List wT} {A : Nat → Prop} {s U : State} {H : Heap} (hv : U.vm = s.vm) (h : wAmb cst stf sts A s H) : wAmb cst stf sts A U H :=
  have hal : s.vm.Alike U.vm := by rw [hv]; exact Vm.Alike.refl _
  ⟨fun k q e => (h.1 k q e).moved hal, fun k q e => (h.2.1 k q e).moved hal, fun k q e => (h.2.2.1 k q e).same hv, h.2.2.2.1.moved hal, h.2.2.2.2.1.moved hal, fun q e => va_Nw.same rfl hv.symm (h.2.2.2.2.2.1 q e), fun q e => va_Nw.same rfl hv.symm (h.2.2.2.2.2.2 q e)⟩
variable {p : Program} {l : Launch} {e : Env} {R : Room} {s : State} {m : MethodId} {args : Array Value} {below : List Frame} {meth : Method} {c : Code} {Qf : State → Prop} {c0 s0 : Nat}
variable {D : va_G} {cl : List vw_C} {cI cC cL : Nat} {A : Nat → Prop} {cc : ByteArray} {nL : Nat} {ws : List Cond} {own : String} {cst : List wC} {stf : wF} {sts : List wT} {sp : Nat → wSp} {ret : Option FieldType} {Q : wK} {QX : wX} {J : wJp} {ct : List (Instr × Nat)}
def wG (p : Program) (l : Launch) (e : Env) (R : Room) (s : State) (m : MethodId) (args : Array Value) (below : List Frame) (meth : Method) (c : Code) (Qf : State → Prop) (c0 s0 : Nat) (D : va_G) (cl : List vw_C) (A : Nat → Prop) (nL : Nat) (pc : Nat) (lo : wLo) (st : List Value) (w : va_W) : Prop :=
  ∀ (H : Heap) (locs : List Loc) (ls : Array Slot), w_LR ls nL lo → va_P D cl w H → va_D A w → va_S A s.heap H locs → W p l e R s m args below meth c H locs c0 s0 Qf (F0 m pc ls st)
/-- what a call of kind i with n words may be taken to do -/
def wCall (cc : ByteArray) (G : wJp) (QX : wX) (i : Instr) (n : Nat) (sp : wSp) : Prop := ∀ (pc : Nat) (av rest : List Value) (pre mid post : va_W) (lo : wLo) (K : wK) (KX : wX), decode cc pc = .ok (i, 3) → av.length = n → w_rl 8 rest → sp av mid K KX →
  (∀ v mid', K v mid' → G (pc + 3) lo (v.toList ++ rest) (pre ++ (mid' ++ post))) → (∀ E mid', KX E mid' → QX E (pre ++ (mid' ++ post))) → G pc lo (av.reverse ++ rest) (pre ++ (mid ++ post))
def w_rv (i : Instr) (ret : Option FieldType) (v : Option Value) : Prop := match i, v with
  | .ireturn, some (.int x) => w_ri ret x
  | .lreturn, some (.long _) => ret = some .long
  | .dreturn, some (.double _) => ret = some .double
  | .return_, none => ret = none
  | _, _ => False
def wRet (cc : ByteArray) (G : wJp) (ret : Option FieldType) (Q : wK) : Prop := ∀ (pc : Nat) (i : Instr) (v : Option Value) (lo : wLo) (w : va_W), decode cc pc = .ok (i, 1) → w_rv i ret v → Q v w → G pc lo v.toList w
theorem w_split (w : va_W) (h : Nat) : w_pre w h ++ (w_mid w h ++ w_post w h) = w := by
  unfold w_pre w_mid w_post
  split
  · simp
  · simp
  have h1 : List.drop (h / 100 + h % 100) w = List.drop (h % 100) (List.drop (h / 100) w) := by rw [List.drop_drop]
  rw [h1, List.take_append_drop, List.take_append_drop]
theorem w_names {pn : String × u_T × Nat} {h3 : Nat} {C : String} {T : u_T} {N : Nat} (e : pn = (C, T, N)) (hc : (T h3).1 = C) : ∀ x : ClassId × Class × Nat × Field, ∀ (s : State), s.fieldFound? (T h3).1 (T h3).2.1 (T h3).2.2.1 = some x → s.fieldFound? C (T h3).2.1 (T h3).2.2.1 = some x := by
  intro x s h
  rw [hc] at h
  exact h
set_option maxHeartbeats 4000000 in
theorem wS_sound (hx : p.tables.exec = Jvm.exec) (hb : c.code = cc) (hown : s.vm.findClass own = some m.cls) (hts : ∀ w ∈ ws, w.before args s = true) (hK : va_K D cl (wTy cI cC cL) s) (hAm : wAmb cst stf sts A s s.heap)
    (hty : ∀ (ci : Nat) (C : String) (T : u_T) (N : Nat), cl[ci]? = some (C, T, N) → ∃ ty0 : Nat → FieldType, (∀ k, k < N → parseFieldDescriptor (T k).2.2.1 = some (ty0 k)) ∧ ∀ a, a < N → ∀ b, b < N → a ≠ b → (T a).2.1 ≠ (T b).2.1)
    (hRet : wRet cc (wG p l e R s m args below meth c Qf c0 s0 D cl A nL) ret Q)
    (hCall : ∀ (k : Nat) (q : Instr × Nat), ct[k]? = some q → wCall cc (wG p l e R s m args below meth c Qf c0 s0 D cl A nL) QX q.1 q.2 (sp k))
    (hJ : ∀ pc lo st w, J pc lo st w → wG p l e R s m args below meth c Qf c0 s0 D cl A nL pc lo st w)
    (a : wAn) (pc : Nat) (hck : w_ck ws own cl nL cc ct a pc = true) (lo : wLo) (st : List Value) (w : va_W) (k : wLo → List Value → va_W → Prop)
    (hk : ∀ lo st w, k lo st w → wG p l e R s m args below meth c Qf c0 s0 D cl A nL (pc + a.2.1) lo st w)
    (h : wS cst stf cI cC cL sp ret Q QX J a lo st w k) : wG p l e R s m args below meth c Qf c0 s0 D cl A nL pc lo st w := by
  obtain ⟨i, len, h1, h2, h3⟩ := a
  unfold w_ck at hck
  rw [Bool.and_eq_true, Bool.and_eq_true, decide_eq_true_eq, beq_iff_eq] at hck
  obtain ⟨hd, hlen, hck⟩ := hck
  dsimp only at hd hlen hk
  cases i
  case iconst n =>
    subst hlen
    intro H locs ls hl hP hD hS
    exact lv_iconst hx hb hd rfl (hk _ _ _ h H locs ls hl hP hD hS)
  case bipush n =>
    subst hlen
    intro H locs ls hl hP hD hS
    exact lv_bipush hx hb hd (of_decide_eq_true hck) (hk _ _ _ h H locs ls hl hP hD hS)
  case sipush n =>
    subst hlen
    intro H locs ls hl hP hD hS
    exact lv_sipush hx hb hd (of_decide_eq_true hck) (hk _ _ _ h H locs ls hl hP hD hS)
  case lconst n =>
    subst hlen
    intro H locs ls hl hP hD hS
    exact lv_lconst hx hb hd rfl (hk _ _ _ h H locs ls hl hP hD hS)
  case ldc x =>
    subst hlen
    intro H locs ls hl hP hD hS
    exact lv_ldc hx hb hown (hts _ (of_decide_eq_true hck)) hd (hk _ _ _ h H locs ls hl hP hD hS)
  case ldc2_w x =>
    subst hlen
    intro H locs ls hl hP hD hS
    have h : k lo ((if h2 = 0 then Value.long (Int64.ofNat h1) else .double (UInt64.ofNat h1)) :: st) w := h
    dsimp only at hck
    by_cases hz : h2 = 0
    · rw [if_pos hz] at h hck
      exact lv_ldc2 hx hb hown (hts _ (of_decide_eq_true hck)) hd (hk _ _ _ h H locs ls hl hP hD hS)
    · rw [if_neg hz] at h hck
      exact lv_ldc2d hx hb hown (hts _ (of_decide_eq_true hck)) hd (hk _ _ _ h H locs ls hl hP hD hS)
  case dconst n =>
    subst hlen
    intro H locs ls hl hP hD hS
    match n, h with
    | 0, h => exact lv_dconst0 hx hb hd (hk _ _ _ h H locs ls hl hP hD hS)
    | 1, h => exact lv_dconst1 hx hb hd (hk _ _ _ h H locs ls hl hP hD hS)
  case iload_n n =>
    subst hlen
    intro H locs ls hl hP hD hS
    obtain ⟨x, e, h⟩ := w_gI_e h
    exact lv_iload_n hx hb hd rfl (hl.2.2.2 _ _ e) (hk _ _ _ h H locs ls hl hP hD hS)
  case iload n =>
    subst hlen
    intro H locs ls hl hP hD hS
    obtain ⟨x, e, h⟩ := w_gI_e h
    exact lv_iload hx hb hd (hl.2.2.2 _ _ e) (hk _ _ _ h H locs ls hl hP hD hS)
  case lload_n n =>
    subst hlen
    intro H locs ls hl hP hD hS
    obtain ⟨x, e, h⟩ := w_gL_e h
    exact lv_lload_n hx hb hd rfl (hl.2.2.2 _ _ e) (hk _ _ _ h H locs ls hl hP hD hS)
  case lload n =>
    subst hlen
    intro H locs ls hl hP hD hS
    obtain ⟨x, e, h⟩ := w_gL_e h
    exact lv_lload hx hb hd (hl.2.2.2 _ _ e) (hk _ _ _ h H locs ls hl hP hD hS)
  case dload_n n =>
    subst hlen
    intro H locs ls hl hP hD hS
    obtain ⟨x, e, h⟩ := w_gD_e h
    exact lv_dload_n hx hb hd rfl (hl.2.2.2 _ _ e) (hk _ _ _ h H locs ls hl hP hD hS)
  case dload n =>
    subst hlen
    intro H locs ls hl hP hD hS
    obtain ⟨x, e, h⟩ := w_gD_e h
    exact lv_dload hx hb hd (hl.2.2.2 _ _ e) (hk _ _ _ h H locs ls hl hP hD hS)
  case aload_n n =>
    subst hlen
    intro H locs ls hl hP hD hS
    obtain ⟨x, e, h⟩ := w_gR_e h
    exact lv_aload_n hx hb hd rfl (hl.2.2.2 _ _ e) (hk _ _ _ h H locs ls hl hP hD hS)
  case aload n =>
    subst hlen
    intro H locs ls hl hP hD hS
    obtain ⟨x, e, h⟩ := w_gR_e h
    exact lv_aload hx hb hd (hl.2.2.2 _ _ e) (hk _ _ _ h H locs ls hl hP hD hS)
  case istore_n n =>
    subst hlen
    intro H locs ls hl hP hD hS
    obtain ⟨x, st, rfl, h⟩ := w_pI_e h
    exact lv_istore_n hx hb hd rfl (w_LR_has hl) (of_decide_eq_true hck) rfl (fun ls' hl' => hk _ _ _ h H locs ls' (w_LR_s1 hl hl') hP hD hS)
  case istore n =>
    subst hlen
    intro H locs ls hl hP hD hS
    obtain ⟨x, st, rfl, h⟩ := w_pI_e h
    exact lv_istore hx hb hd (w_LR_has hl) (of_decide_eq_true hck) rfl (fun ls' hl' => hk _ _ _ h H locs ls' (w_LR_s1 hl hl') hP hD hS)
  case astore_n n =>
    subst hlen
    intro H locs ls hl hP hD hS
    obtain ⟨x, st, rfl, h⟩ := w_pR_e h
    exact lv_astore_n hx hb hd rfl (w_LR_has hl) (of_decide_eq_true hck) rfl (fun ls' hl' => hk _ _ _ h H locs ls' (w_LR_s1 hl hl') hP hD hS)
  case astore n =>
    subst hlen
    intro H locs ls hl hP hD hS
    obtain ⟨x, st, rfl, h⟩ := w_pR_e h
    exact lv_astore hx hb hd (w_LR_has hl) (of_decide_eq_true hck) rfl (fun ls' hl' => hk _ _ _ h H locs ls' (w_LR_s1 hl hl') hP hD hS)
  case lstore_n n =>
    subst hlen
    intro H locs ls hl hP hD hS
    obtain ⟨x, st, rfl, h⟩ := w_pL_e h
    exact lv_lstore_n hx hb hd rfl (w_LR_has hl) (of_decide_eq_true hck) rfl (fun ls' hl' => hk _ _ _ h H locs ls' (w_LR_s2 hl hl') hP hD hS)
  case lstore n =>
    subst hlen
    intro H locs ls hl hP hD hS
    obtain ⟨x, st, rfl, h⟩ := w_pL_e h
    exact lv_lstore hx hb hd (w_LR_has hl) (of_decide_eq_true hck) rfl (fun ls' hl' => hk _ _ _ h H locs ls' (w_LR_s2 hl hl') hP hD hS)
  case dstore_n n =>
    subst hlen
    intro H locs ls hl hP hD hS
    obtain ⟨x, st, rfl, h⟩ := w_pD_e h
    exact lv_dstore_n hx hb hd rfl (w_LR_has hl) (of_decide_eq_true hck) rfl (fun ls' hl' => hk _ _ _ h H locs ls' (w_LR_s2 hl hl') hP hD hS)
  case dstore n =>
    subst hlen
    intro H locs ls hl hP hD hS
    obtain ⟨x, st, rfl, h⟩ := w_pD_e h
    exact lv_dstore hx hb hd (w_LR_has hl) (of_decide_eq_true hck) rfl (fun ls' hl' => hk _ _ _ h H locs ls' (w_LR_s2 hl hl') hP hD hS)
  case iinc n z =>
    subst hlen
    intro H locs ls hl hP hD hS
    obtain ⟨x, e, h⟩ := w_gI_e h
    obtain ⟨kk, hkk⟩ := List.getElem?_of_mem ((w_en_mem (q := (n, Value.int x))).mpr e)
    exact lv_iinc hx hb hd (w_LR_has hl) hkk rfl (of_decide_eq_true hck) rfl (fun ls' hl' => hk _ _ _ h H locs ls' (w_LR_s1 hl hl') hP hD hS)
  case iadd =>
    subst hlen
    intro H locs ls hl hP hD hS
    obtain ⟨y, st, rfl, h⟩ := w_pI_e h
    obtain ⟨x, st, rfl, h⟩ := w_pI_e h
    exact lv_iadd hx hb hd (hk _ _ _ h H locs ls hl hP hD hS)
  case isub =>
    subst hlen
    intro H locs ls hl hP hD hS
    obtain ⟨y, st, rfl, h⟩ := w_pI_e h
    obtain ⟨x, st, rfl, h⟩ := w_pI_e h
    exact lv_isub hx hb hd (hk _ _ _ h H locs ls hl hP hD hS)
  case imul =>
    subst hlen
    intro H locs ls hl hP hD hS
    obtain ⟨y, st, rfl, h⟩ := w_pI_e h
    obtain ⟨x, st, rfl, h⟩ := w_pI_e h
    exact lv_imul hx hb hd (hk _ _ _ h H locs ls hl hP hD hS)
  case iand =>
    subst hlen
    intro H locs ls hl hP hD hS
    obtain ⟨y, st, rfl, h⟩ := w_pI_e h
    obtain ⟨x, st, rfl, h⟩ := w_pI_e h
    exact lv_iand hx hb hd (hk _ _ _ h H locs ls hl hP hD hS)
  case ior =>
    subst hlen
    intro H locs ls hl hP hD hS
    obtain ⟨y, st, rfl, h⟩ := w_pI_e h
    obtain ⟨x, st, rfl, h⟩ := w_pI_e h
    exact lv_ior hx hb hd (hk _ _ _ h H locs ls hl hP hD hS)
  case irem =>
    subst hlen
    intro H locs ls hl hP hD hS
    obtain ⟨y, st, rfl, h⟩ := w_pI_e h
    obtain ⟨x, st, rfl, hn, h⟩ := w_pI_e h
    exact lv_irem hx hb hd hn (hk _ _ _ h H locs ls hl hP hD hS)
  case ishl =>
    subst hlen
    intro H locs ls hl hP hD hS
    obtain ⟨y, st, rfl, h⟩ := w_pI_e h
    obtain ⟨x, st, rfl, h⟩ := w_pI_e h
    exact lv_ishl hx hb hd (hk _ _ _ h H locs ls hl hP hD hS)
  case ishr =>
    subst hlen
    intro H locs ls hl hP hD hS
    obtain ⟨y, st, rfl, h⟩ := w_pI_e h
    obtain ⟨x, st, rfl, h⟩ := w_pI_e h
    exact lv_ishr hx hb hd (hk _ _ _ h H locs ls hl hP hD hS)
  case ixor =>
    subst hlen
    intro H locs ls hl hP hD hS
    obtain ⟨y, st, rfl, h⟩ := w_pI_e h
    obtain ⟨x, st, rfl, h⟩ := w_pI_e h
    exact lv_ixor hx hb hd (hk _ _ _ h H locs ls hl hP hD hS)
  case idiv =>
    subst hlen
    intro H locs ls hl hP hD hS
    obtain ⟨y, st, rfl, h⟩ := w_pI_e h
    obtain ⟨x, st, rfl, hn, h⟩ := w_pI_e h
    exact lv_idiv hx hb hd hn (hk _ _ _ h H locs ls hl hP hD hS)
  case i2l =>
    subst hlen
    intro H locs ls hl hP hD hS
    obtain ⟨x, st, rfl, h⟩ := w_pI_e h
    exact lv_i2l hx hb hd rfl (hk _ _ _ h H locs ls hl hP hD hS)
  case i2c =>
    subst hlen
    intro H locs ls hl hP hD hS
    obtain ⟨x, st, rfl, h⟩ := w_pI_e h
    exact lv_i2c hx hb hd rfl (hk _ _ _ h H locs ls hl hP hD hS)
  case i2d =>
    subst hlen
    intro H locs ls hl hP hD hS
    obtain ⟨x, st, rfl, h⟩ := w_pI_e h
    exact lv_i2d hx hb hd (hk _ _ _ h H locs ls hl hP hD hS)
  case d2l =>
    subst hlen
    intro H locs ls hl hP hD hS
    obtain ⟨x, st, rfl, h⟩ := w_pD_e h
    exact lv_d2l hx hb hd (hk _ _ _ h H locs ls hl hP hD hS)
  case ladd =>
    subst hlen
    intro H locs ls hl hP hD hS
    obtain ⟨y, st, rfl, h⟩ := w_pL_e h
    obtain ⟨x, st, rfl, h⟩ := w_pL_e h
    exact lv_ladd hx hb hd (hk _ _ _ h H locs ls hl hP hD hS)
  case lsub =>
    subst hlen
    intro H locs ls hl hP hD hS
    obtain ⟨y, st, rfl, h⟩ := w_pL_e h
    obtain ⟨x, st, rfl, h⟩ := w_pL_e h
    exact lv_lsub hx hb hd (hk _ _ _ h H locs ls hl hP hD hS)
  case lmul =>
    subst hlen
    intro H locs ls hl hP hD hS
    obtain ⟨y, st, rfl, h⟩ := w_pL_e h
    obtain ⟨x, st, rfl, h⟩ := w_pL_e h
    exact lv_lmul hx hb hd (hk _ _ _ h H locs ls hl hP hD hS)
  case lcmp =>
    subst hlen
    intro H locs ls hl hP hD hS
    obtain ⟨y, st, rfl, h⟩ := w_pL_e h
    obtain ⟨x, st, rfl, h⟩ := w_pL_e h
    exact W.lcmp hx hb hd (hk _ _ _ h H locs ls hl hP hD hS)
  case ddiv =>
    subst hlen
    intro H locs ls hl hP hD hS
    obtain ⟨y, st, rfl, h⟩ := w_pD_e h
    obtain ⟨x, st, rfl, hn, h⟩ := w_pD_e h
    exact lv_ddiv hx hb hd hn (hk _ _ _ h H locs ls hl hP hD hS)
  case dmul =>
    subst hlen
    intro H locs ls hl hP hD hS
    obtain ⟨y, st, rfl, h⟩ := w_pD_e h
    obtain ⟨x, st, rfl, hn, h⟩ := w_pD_e h
    exact lv_dmul hx hb hd hn (hk _ _ _ h H locs ls hl hP hD hS)
  case dsub =>
    subst hlen
    intro H locs ls hl hP hD hS
    obtain ⟨y, st, rfl, h⟩ := w_pD_e h
    obtain ⟨x, st, rfl, hn, h⟩ := w_pD_e h
    exact lv_dsub hx hb hd hn (hk _ _ _ h H locs ls hl hP hD hS)
  case dcmp op =>
    subst hlen
    intro H locs ls hl hP hD hS
    obtain ⟨y, st, rfl, h⟩ := w_pD_e h
    obtain ⟨x, st, rfl, h⟩ := w_pD_e h
    exact lv_dcmp hx hb hd (hk _ _ _ h H locs ls hl hP hD hS)
  case dup =>
    subst hlen
    intro H locs ls hl hP hD hS
    obtain ⟨x, st, rfl, h9, h⟩ := w_pV_e h
    exact lv_dup hx hb hd h9 (hk _ _ _ h H locs ls hl hP hD hS)
  case pop =>
    subst hlen
    intro H locs ls hl hP hD hS
    obtain ⟨x, st, rfl, h9, h⟩ := w_pV_e h
    exact lv_pop hx hb hd h9 (hk _ _ _ h H locs ls hl hP hD hS)
  case dup2 =>
    subst hlen
    intro H locs ls hl hP hD hS
    obtain ⟨x, st, rfl, h9, h⟩ := w_pV_e h
    obtain ⟨y, st, rfl, h8, h⟩ := w_pV_e h
    exact lv_dup2_11 hx hb hd h9 h8 (hk _ _ _ h H locs ls hl hP hD hS)
  case getfield x =>
    subst hlen
    intro H locs ls hl hP hD hS
    obtain ⟨r, st, rfl, g1⟩ := w_pR_e h
    obtain ⟨a, ci, fs, hw, rfl, rfl, g2⟩ := w_o_e g1
    obtain ⟨v, hv, g3⟩ := w_f_e g2
    dsimp only at hck
    split at hck
    · rename_i C T N hc
      simp only [Bool.and_eq_true, decide_eq_true_eq] at hck
      obtain ⟨k1, k2, k3, k4⟩ := hck
      exact va_get (ref := C) hx hb hts k4 hown hK hP h1 hw hc h3 k1 (hts _ k3) (fun y hy => by rw [k2] at hy; exact hy) hv hd (hk _ _ _ g3 H locs ls hl hP hD hS)
    · cases hck
  case putfield x =>
    subst hlen
    intro H locs ls hl hP hD hS
    obtain ⟨z, st, rfl, g1⟩ := w_pI_e h
    obtain ⟨r, st, rfl, g2⟩ := w_pR_e g1
    obtain ⟨a, ci, fs, hw, rfl, rfl, hlt, g3⟩ := w_o_e g2
    dsimp only at hck
    split at hck
    · rename_i C T N hc
      simp only [Bool.and_eq_true, decide_eq_true_eq] at hck
      obtain ⟨k1, k2, k3, k4, k5, k6⟩ := hck
      obtain ⟨ty0, ht1, ht2⟩ := hty _ _ _ _ hc
      exact va_put (ref := C) (ty := .int) hx hb hts k4 ty0 ht1 ht2 hown hK hP hD hS h1 hw hc h3 k1 (hts _ k3) (fun y hy => by rw [k2] at hy; exact hy) k5 (by rw [k6]; decide +kernel) rfl rfl hlt hd (fun H1 locs1 hP1 hD1 hS1 => hk _ _ _ g3 H1 locs1 ls hl hP1 hD1 hS1)
    · cases hck
  case getstatic x =>
    subst hlen
    intro H locs ls hl hP hD hS
    obtain ⟨hz, g⟩ := h
    dsimp only at hck
    split at hck
    · rename_i C' n' d' hc
      by_cases h0 : h2 = 0
      · rw [if_pos h0] at hck
        exact va_gets hx hb (hAm.2.1 _ _ hc) hS hown (hts _ (of_decide_eq_true hck)) (fun y hy => hy) hd (hk _ _ _ g H locs ls hl hP hD hS)
      · rw [if_neg h0] at hck
        exact va_getsN hx hb (hAm.2.1 _ _ hc) hS hown (va_Nw.use rfl (hAm.2.2.2.2.2.2 _ (of_decide_eq_true hck))) (fun y hy => hy) hd (hk _ _ _ g H locs ls hl hP hD hS)
    · cases hck
  case iaload =>
    subst hlen
    intro H locs ls hl hP hD hS
    obtain ⟨i, st, rfl, g1⟩ := w_pI_e h
    obtain ⟨r, st, rfl, g2⟩ := w_pR_e g1
    by_cases hz : h2 = 0
    · rw [if_pos hz] at g2
      obtain ⟨a, cA, n, f, hw, rfl, rfl, hin, g3⟩ := w_a_e g2
      exact va_iald hx hb hK hP h1 0 hw rfl hin hd (hk _ _ _ g3 H locs ls hl hP hD hS)
    · rw [if_neg hz] at g2
      obtain ⟨t, ty, n, f, hw, rfl, rfl, hin, g4⟩ := w_c_e g2
      exact va_ti hx hb (hAm.1 _ _ hw) hS hin rfl hd (hk _ _ _ g4 H locs ls hl hP hD hS)
  case iastore =>
    subst hlen
    intro H locs ls hl hP hD hS
    obtain ⟨z, st, rfl, g1⟩ := w_pI_e h
    obtain ⟨i, st, rfl, g2⟩ := w_pI_e g1
    obtain ⟨r, st, rfl, g3⟩ := w_pR_e g2
    obtain ⟨a, cA, n, f, hw, rfl, rfl, hin, g4⟩ := w_a_e g3
    exact va_iast hx hb hK hP hD hS h1 0 hw rfl hin hd (fun H1 locs1 hP1 hD1 hS1 => hk _ _ _ g4 H1 locs1 ls hl hP1 hD1 hS1)
  case arraylength =>
    subst hlen
    intro H locs ls hl hP hD hS
    obtain ⟨r, st, rfl, g1⟩ := w_pR_e h
    by_cases hz : h2 = 0
    · rw [if_pos hz] at g1
      obtain ⟨a, cA, n, f, hw, rfl, rfl, g2⟩ := w_a_e g1
      exact va_alen hx hb hK hP h1 0 hw rfl (ii_nat n).symm hd (hk _ _ _ g2 H locs ls hl hP hD hS)
    · rw [if_neg hz] at g1
      obtain ⟨t, ty, n, f, hw, rfl, g3⟩ := w_c_e g1
      exact va_tlen hx hb (hAm.1 _ _ hw) hS (ii_nat n).symm hd (hk _ _ _ g3 H locs ls hl hP hD hS)
  case goto o =>
    subst hlen
    intro H locs ls hl hP hD hS
    exact lv_goto (tgt := h1) hx hb hd (of_decide_eq_true hck) (hJ _ _ _ _ h H locs ls hl hP hD hS)
  case ifCond cd o =>
    subst hlen
    intro H locs ls hl hP hD hS
    obtain ⟨x, st, rfl, h⟩ := w_pI_e h
    cases cd
    · exact lv_if_eq (tgt := h1) hx hb hd (of_decide_eq_true hck) (fun z => hJ _ _ _ _ (h.1 z) H locs ls hl hP hD hS) (fun z => hk _ _ _ (h.2 z) H locs ls hl hP hD hS)
    · exact lv_if_ne (tgt := h1) hx hb hd (of_decide_eq_true hck) (fun z => hJ _ _ _ _ (h.1 z) H locs ls hl hP hD hS) (fun z => hk _ _ _ (h.2 z) H locs ls hl hP hD hS)
    · exact lv_if_lt (tgt := h1) hx hb hd (of_decide_eq_true hck) (fun z => hJ _ _ _ _ (h.1 z) H locs ls hl hP hD hS) (fun z => hk _ _ _ (h.2 z) H locs ls hl hP hD hS)
    · exact lv_if_ge (tgt := h1) hx hb hd (of_decide_eq_true hck) (fun z => hJ _ _ _ _ (h.1 z) H locs ls hl hP hD hS) (fun z => hk _ _ _ (h.2 z) H locs ls hl hP hD hS)
    · exact lv_if_gt (tgt := h1) hx hb hd (of_decide_eq_true hck) (fun z => hJ _ _ _ _ (h.1 z) H locs ls hl hP hD hS) (fun z => hk _ _ _ (h.2 z) H locs ls hl hP hD hS)
    · exact lv_if_le (tgt := h1) hx hb hd (of_decide_eq_true hck) (fun z => hJ _ _ _ _ (h.1 z) H locs ls hl hP hD hS) (fun z => hk _ _ _ (h.2 z) H locs ls hl hP hD hS)
  case if_icmp cd o =>
    subst hlen
    intro H locs ls hl hP hD hS
    obtain ⟨y, st, rfl, h⟩ := w_pI_e h
    obtain ⟨x, st, rfl, h⟩ := w_pI_e h
    cases cd
    · exact lv_icmp_eq (tgt := h1) hx hb hd (of_decide_eq_true hck) (fun z => hJ _ _ _ _ (h.1 z) H locs ls hl hP hD hS) (fun z => hk _ _ _ (h.2 z) H locs ls hl hP hD hS)
    · exact lv_icmp_ne (tgt := h1) hx hb hd (of_decide_eq_true hck) (fun z => hJ _ _ _ _ (h.1 z) H locs ls hl hP hD hS) (fun z => hk _ _ _ (h.2 z) H locs ls hl hP hD hS)
    · exact lv_icmp_lt (tgt := h1) hx hb hd (of_decide_eq_true hck) (fun z => hJ _ _ _ _ (h.1 z) H locs ls hl hP hD hS) (fun z => hk _ _ _ (h.2 z) H locs ls hl hP hD hS)
    · exact lv_icmp_ge (tgt := h1) hx hb hd (of_decide_eq_true hck) (fun z => hJ _ _ _ _ (h.1 z) H locs ls hl hP hD hS) (fun z => hk _ _ _ (h.2 z) H locs ls hl hP hD hS)
    · exact lv_icmp_gt (tgt := h1) hx hb hd (of_decide_eq_true hck) (fun z => hJ _ _ _ _ (h.1 z) H locs ls hl hP hD hS) (fun z => hk _ _ _ (h.2 z) H locs ls hl hP hD hS)
    · exact lv_icmp_le (tgt := h1) hx hb hd (of_decide_eq_true hck) (fun z => hJ _ _ _ _ (h.1 z) H locs ls hl hP hD hS) (fun z => hk _ _ _ (h.2 z) H locs ls hl hP hD hS)
  case invokevirtual x =>
    subst hlen
    obtain ⟨hn, hr, h⟩ := h
    have h9 := hCall h1 _ (of_decide_eq_true hck) pc _ (st.drop h3) (w_pre w h2) (w_mid w h2) (w_post w h2) lo _ _ hd (by rw [List.length_reverse, List.length_take]; omega) hr h (fun v mid' hv => hk _ _ _ hv) (fun E mid' hv => hv)
    rw [List.reverse_reverse, List.take_append_drop, w_split] at h9
    exact h9
  case invokestatic x =>
    subst hlen
    obtain ⟨hn, hr, h⟩ := h
    have h9 := hCall h1 _ (of_decide_eq_true hck) pc _ (st.drop h3) (w_pre w h2) (w_mid w h2) (w_post w h2) lo _ _ hd (by rw [List.length_reverse, List.length_take]; omega) hr h (fun v mid' hv => hk _ _ _ hv) (fun E mid' hv => hv)
    rw [List.reverse_reverse, List.take_append_drop, w_split] at h9
    exact h9
  case ireturn =>
    subst hlen
    obtain ⟨x, st, rfl, rfl, h8, h⟩ := w_pI_e h
    exact hRet pc .ireturn (some (.int x)) lo w hd h8 h
  case lreturn =>
    subst hlen
    obtain ⟨x, st, rfl, rfl, h8, h⟩ := w_pL_e h
    exact hRet pc .lreturn (some (.long x)) lo w hd h8 h
  case dreturn =>
    subst hlen
    obtain ⟨x, st, rfl, rfl, h8, h⟩ := w_pD_e h
    exact hRet pc .dreturn (some (.double x)) lo w hd h8 h
  case return_ =>
    subst hlen
    obtain ⟨rfl, h8, h⟩ := h
    exact hRet pc .return_ none lo w hd h8 h
  all_goals exact h.elim
end WPS
