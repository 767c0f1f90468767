section LWA
/-! the law's own methods: a call of the class, its answer put away, its throws told by numbers -/
def wNc (U : State) : Prop := va_Nc xA xI U ∧ va_Nc xS xI U ∧ va_Nc xS xA U
theorem wNc.moved {u U : State} (h : u.vm.Alike U.vm) (g : wNc u) : wNc U := ⟨g.1.moved h, g.2.1.moved h, g.2.2.moved h⟩
abbrev cO (g : gW) (o : Nat → Int64) : Nat × va_E := (gA g 41, .inl (gL g, 1, .inr (.inl o)))
def wQ1 (D : va_G) (cl : List vw_C) (tys : List (ClassId × FieldType)) (K : wK) (A : Nat → Prop) : Array Value → State → Outcome → State → Prop := fun _ st oc t => ∃ v w', oc = .returned v ∧ K v w' ∧ va_P D cl w' t.heap ∧ va_K D cl tys t ∧ va_D A w' ∧ va_F A st t
def wMW (l : Launch) (g : gW) (y : MethodName) (ws : List Cond) (rm : Room) (sp : wSp) : Prop := ∀ (av : List Value) (w : va_W) (K : wK) (KX : wX) (sz : Nat), sp av w K KX →
  Met l y ws rm (va_Pc av (fun U => wU g.1 vwCl (gTy g) (gCst g) (gStf g) (gSts g) sz w U ∧ wNc U)) (wQ1 g.1 vwCl (gTy g) K (va_A w sz)) 1 6 (va_A w sz)
theorem wU1_blind {D : va_G} {cl : List vw_C} {cst : List wC} {stf : wF} {sts : List wT} {tys : List (ClassId × FieldType)} {sz : Nat} {w : va_W} {av : List Value} : FrameBlind (va_Pc av (fun U => wU D cl tys cst stf sts sz w U ∧ wNc U)) := by
  intro a U g mk h
  obtain ⟨h0, h1, h2⟩ := h
  have k := wU_blind (D := D) (cl := cl) (cst := cst) (stf := stf) (sts := sts) (tys := tys) (sz := sz) (w := w) (av := av) a U g mk ⟨h0, h1⟩
  exact ⟨k.1, k.2, wNc.moved (u := U) (U := U.calling g mk a) (Vm.Alike.refl U.vm) h2⟩
variable {p : Program} {l : Launch} {e : Env} {R : Room} {s : State} {m : MethodId} {args : Array Value} {below : List Frame} {meth : Method} {c : Code} {Qf : State → Prop} {c0 s0 : Nat}
variable {D : va_G} {cl : List vw_C} {cI cC cL : Nat} {A : Nat → Prop} {cc : ByteArray} {nL : Nat} {own : String} {cst : List wC} {stf : wF} {sts : List wT} {ret : Option FieldType} {Q : wK} {tys : List (ClassId × FieldType)}
variable {y : MethodName} {bytes : ByteArray} {maxL n index : Nat} {ret' : Option FieldType} {ws' : List Cond} {rm : Room} {sp : wSp} {C : String} {T : u_T} {N ci : Nat}
theorem wRet_1 {k n : Nat} (hk1 : k ≤ 1) (hn1 : n ≤ 6) (hx : p.tables.exec = Jvm.exec) (hb : c.code = cc) (hr : meth.sig.returnType = ret) (hlocks : meth.locks = false) (hK : va_K D cl tys s) :
    wRet cc (wG p l e R s m args below meth c (MQ below (wQ1 D cl tys Q A) args s 1 6 A) k n D cl A nL) ret Q := by
  intro pc i v lo w hd hv hq H locs ls hl hP hD hS
  have key : ∀ t : State, t.heap = H → s.WarmedH t.vm → wQ1 D cl tys Q A args s (.returned v) t := fun t ht hW =>
    ⟨v, w, rfl, hq, by rw [ht]; exact hP, hK.moved hW.alike, hD, hS.F ht⟩
  refine W.widen (k := 1) (n := 6) hk1 hn1 ?_
  unfold w_rv at hv
  split at hv
  · rename_i x
    unfold w_ri at hv
    split at hv
    · exact W.iret hx hb hr key hS.2.2 hd hlocks
    · refine W.zret (ty := .boolean) hx hb hr ?_ key hS.2.2 hd hlocks
      rcases hv with rfl | rfl <;> rfl
    · exact hv.elim
  · subst hv; exact W.lret hx hb hr key hS.2.2 hd hlocks
  · subst hv; exact W.dret hx hb hr key hS.2.2 hd hlocks
  · subst hv; exact W.vret hx hb hr key hS.2.2 hd hlocks
  · exact hv.elim
/-- a call at pc whose throws are caught there: b is where a throwable goes on -/
def wCallX (G0 G1 : wJp) (nL : Nat) (hm : String → Nat → Prop) (pc n : Nat) (sp : wSp) : Prop := ∀ (av rest : List Value) (pre mid post : va_W) (lo : wLo) (K : wK) (KX : wX), av.length = n → w_rl 8 rest → sp av mid K KX →
  (∀ v mid', K v mid' → G0 (pc + 3) lo (v.toList ++ rest) (pre ++ (mid' ++ post))) → (∀ E mid', KX E mid' → ∃ b, hm E b ∧ ∀ q, G1 b (List.replicate nL none) [.ref q] (pre ++ (mid' ++ post))) → G0 pc lo (av.reverse ++ rest) (pre ++ (mid ++ post))
theorem w_LR_none {ls : Array Slot} {lo : wLo} (h : w_LR ls nL lo) : w_LR ls nL (List.replicate nL none) := ⟨h.1, h.2.1, List.length_replicate, fun i v hv => by
  rw [List.getElem?_replicate] at hv
  split at hv <;> cases hv⟩
theorem wCall_VH {hm : String → Nat → Prop} {pc : Nat} (X : wCtx l D cl tys cst stf sts p s m args c A cc nL own) (hM : wMetX l D cl tys cst stf sts y ws' rm sp) (cw : CallW R s args own C index y bytes maxL ret' ws' rm 1 6 n) (hc : cl[ci]? = some (C, T, N)) (hf : 1 ≤ R.cells ∧ 6 ≤ R.slots)
    (hrecv : ∀ av w K KX, sp av w K KX → ∃ b As fs, av = .ref b :: As ∧ w[0]? = some (b, .inr (ci, fs))) (hd : decode cc pc = .ok (.invokevirtual index, 3))
    (hcatch : ∀ (E : String) (b : Nat), hm E b → ∀ (H : Heap) (locs : List Loc) (ls : Array Slot) (rest : List Value) (q : Addr) (ce : Cell), H[q]? = some ce → ce.vm = .none → s.vm.findClass E = some ce.cls → W p l e R s m args below meth c H locs 1 6 Qf (F0 m b ls [.ref q]) → vx_W p l e R s m args below meth c H locs 1 6 Qf (F0 m pc ls rest) q) :
    wCallX (wG p l e R s m args below meth c Qf 0 0 D cl A nL) (wG p l e R s m args below meth c Qf 1 6 D cl A nL) nL hm pc (n + 1) sp := by
  obtain ⟨S, hK, hAm, hA⟩ := X
  intro av rest pre mid post lo K KX hlen hrest hsp hk hkx H locs ls hl hP hD hS
  obtain ⟨b, As, fs, rfl, hw0⟩ := hrecv _ _ _ _ hsp
  obtain ⟨hFc, hst⟩ := w_start (cst := cst) (stf := stf) (sts := sts) hAm hK hA hP hD hS
  have hr := vx_runV (l := l) (e := e) (below := below) (meth := meth) (cells := 0) (slots := 0) (locs := locs) (As := As) (rest := rest) (g := F0 m pc ls ((Value.ref b :: As).reverse ++ rest)) S (hM _ mid K KX H.size hsp) cw ⟨wU_blind, va_recv hK (w_segP hP) hc hw0, fun U hU hW => ⟨rfl, hst U hU hW⟩⟩ rfl (by simpa using hlen) hl.1 w_stk (lv_room (w_sum4 _ hrest)) hd (by omega)
  refine w_size (fun hsz0 => ?_)
  intro T hT X
  rcases hr T hT X with ⟨v, st₀, t, T', L, h0, X', hL, e1, e2, ⟨⟨⟨v', w', hv, hKv, hP1, hK1, hD1⟩, hz, hkk⟩, hszz⟩, st⟩ | ⟨q, st₀, t, T', L, E, ce, h0, X', hL, e1, e2, ⟨w', hKE, hP1, hK1, hD1, hz, hkk⟩, hce, hcv, hcl, st⟩
  · cases hv
    rw [h0] at hz hkk hszz
    rw [← e1] at hz hkk hP1 hszz
    obtain ⟨hP2, hD2⟩ := w_back hP hD hkk hFc hP1 hD1
    obtain ⟨t2, a1, b1⟩ := hk v w' hKv T'.heap (locs ++ L) ls hl hP2 hD2 (w_locs hS hFc hz hkk hL) T' rfl (w_tight X' (by omega))
    exact ⟨t2, st t2 a1, b1⟩
  · rw [h0] at hz hkk
    rw [← e1] at hz hkk hP1 hce
    obtain ⟨hP2, hD2⟩ := w_back hP hD hkk hFc hP1 hD1
    obtain ⟨b', hb1, hb2⟩ := hkx E w' hKE
    have hW := hb2 q T'.heap (locs ++ L) ls (w_LR_none hl) hP2 hD2 (w_locs hS hFc hz hkk hL)
    obtain ⟨t2, a1, b1⟩ := hcatch E b' hb1 T'.heap (locs ++ L) ls rest q ce hce hcv hcl hW T' rfl X'
    exact ⟨t2, st.trans a1, b1⟩
/-- which class of throwables an earlier row of a table may name, and a later one then -/
def hOrd (nm E : String) : Prop := (nm = xI ∧ E = xA) ∨ (nm = xI ∧ E = xS) ∨ (nm = xA ∧ E = xS)
theorem wNc.of {U : State} (h : wNc U) {nm E : String} (hE : hOrd nm E) : va_Nc E nm U := by
  rcases hE with ⟨rfl, rfl⟩ | ⟨rfl, rfl⟩ | ⟨rfl, rfl⟩
  · exact h.1
  · exact h.2.1
  · exact h.2.2
/-- what a table must show of a row for E -/
def hRow (hh : List (Nat × Nat × Nat × Nat)) (pc : Nat) (E : String) (b : Nat) : Prop := ∃ (pre : List ExceptionTableEntry) (x : ExceptionTableEntry) (suf : List ExceptionTableEntry), tableOf hh = pre ++ x :: suf ∧ x.handlerPc = b ∧ covers x pc = true ∧ x.catchType ≠ 0 ∧ Cond.classLink RL x.catchType E ∈ wGT ∧ Cond.instantiable E 6 ∈ wGT ∧
  ∀ z ∈ pre, z.catchType ≠ 0 ∧ ∃ nm, Cond.classLink RL z.catchType nm ∈ wGT ∧ hOrd nm E
theorem wMW_of {g : gW} {cc : ByteArray} {hh : List (Nat × Nat × Nat × Nat)} {wo : List Cond} {hm : String → Nat → Prop} {pc : Nat} {yc : MethodName} {rmc : Room} {sp0 sp : wSp} (hy : plainName y.cls = true) (hcl : RL = y.cls) (hwo : ∀ w ∈ wo, w ∈ wGT)
    (hM : gMX l g yc (wWs yc bytes maxL ret') rmc sp0) (hlk : ∀ w ∈ [Cond.methodLink RL index yc, .instanceMethod yc, .selects C yc yc, .initialized C, .code yc bytes maxL ret'], w ∈ wGT) (hr0 : rmc.cells = 1 ∧ rmc.slots = 6)
    (hd0 : yc.cls = C ∧ yc.cls ≠ "java/lang/invoke/MethodHandle" ∧ yc.cls ≠ "java/lang/invoke/VarHandle" ∧ (parseMethodDescriptor yc.desc).map (fun d => d.parameters.length) = some n) (hR : rmc.frames + 1 ≤ rm.frames ∧ 8 + (maxL + 11) + rmc.locals ≤ rm.locals) (hc : vwCl[ci]? = some (C, T, N)) (hf : 1 ≤ rm.cells ∧ 6 ≤ rm.slots)
    (hrecv : ∀ av w K KX, sp0 av w K KX → ∃ b As fs, av = .ref b :: As ∧ w[0]? = some (b, .inr (ci, fs))) (hd : decode cc pc = .ok (.invokevirtual index, 3)) (hrow : ∀ E b, hm E b → hRow hh pc E b)
    (hwalk : ∀ av w K KX, sp av w K KX → ((lg_sl av).length ≤ nL ∧ (w_in av nL).length = nL) ∧ ∀ G0 G1 : wJp, gOK g (fun _ _ _ _ _ => False) ret K (fun _ _ => False) (w_ckB wo RL vwCl nL cc []) G0 → gOK g (fun _ _ _ _ _ => False) ret K (fun _ _ => False) (w_ckB wo RL vwCl nL cc []) G1 → wCallX G0 G1 nL hm pc (n + 1) sp0 → G0 0 (w_in av nL) [] w) :
    wMW l g y (Cond.codeWith y cc nL ret hh :: wGT) rm sp := by
  intro av w K KX sz hsp
  obtain ⟨⟨hav1, hav2⟩, hw⟩ := hwalk av w K KX hsp
  refine va_MetW (cc := cc) (maxL := nL) (ret := ret) (hh := hh) hy rfl ?_
  intro p e s m args below meth c s₁ B hml hv
  obtain ⟨rfl, ⟨hsz, hP, hK, hD0, hAm⟩, hnc⟩ := hv
  subst hsz
  have hx := B.exec
  have hb := B.bytes
  have hr := B.returns
  have hts0 := atoms_spec (ws := Cond.codeWith y cc nL ret hh :: wGT) B.pre
  have hts : ∀ w ∈ wGT, w.before av.toArray s = true := fun w hw => hts0 w (List.mem_cons_of_mem _ hw)
  have htab : c.exceptionTable.toList = tableOf hh := vx_table (x := y) B (hts0 _ List.mem_cons_self)
  have hown : s.vm.findClass RL = some m.cls := by rw [hcl]; exact findClass_of_methodNamed B.named
  have hlocks := B.notSynchronized
  have hD := hD0.self (sz := s.heap.size)
  have hA : ∀ q : Nat, s.heap.size ≤ q → va_A w s.heap.size q := fun q h => Or.inr h
  have X : wCtx l g.1 vwCl (gTy g) (gCst g) (gStf g) (gSts g) p s m av.toArray c (va_A w s.heap.size) cc nL RL := ⟨⟨hx, hb, hml, hown, hts⟩, hK, hAm, hA⟩
  have G := hw (wG p l e rm s m av.toArray below meth c (MQ below (wQ1 g.1 vwCl (gTy g) K (va_A w s.heap.size)) av.toArray s 1 6 (va_A w s.heap.size)) 0 0 g.1 vwCl (va_A w s.heap.size) nL) (wG p l e rm s m av.toArray below meth c (MQ below (wQ1 g.1 vwCl (gTy g) K (va_A w s.heap.size)) av.toArray s 1 6 (va_A w s.heap.size)) 1 6 g.1 vwCl (va_A w s.heap.size) nL) (wB_sound (nL := nL) (ct := []) hx hb hown (fun w h => hts w (hwo w h)) hK hAm w_tyok_vw (wRet_1 (A := va_A w s.heap.size) (k := 0) (n := 0) (by omega) (by omega) hx hb hr hlocks hK) (fun k q h => by cases h))
    (wB_sound (nL := nL) (ct := []) hx hb hown (fun w h => hts w (hwo w h)) hK hAm w_tyok_vw (wRet_1 (A := va_A w s.heap.size) (k := 1) (n := 6) (by omega) (by omega) hx hb hr hlocks hK) (fun k q h => by cases h))
    (wCall_VH (n := n) X hM (cwV n hts (wGood (ws := [Cond.methodLink RL index yc, .instanceMethod yc, .selects C yc yc, .initialized C]) (fun w h => hlk w (w_more (x := Cond.code yc bytes maxL ret') h)) (hlk _ (by simp))) rfl hr0.1 hr0.2 hd0 hR) hc hf hrecv hd (fun E b hb1 H locs ls rest q ce h1 h2 h3 kk => by
      obtain ⟨pre, x, suf, k1, k2, k3, k4, k5, k6, k7⟩ := hrow E b hb1
      refine vx_catch hown pre x suf (htab.trans k1) (fun z hz => ?_) k3 k4 (hts _ k5) (w_castable (hts _ k6)) h1 h2 h3 (by rw [k2]; exact kk)
      obtain ⟨z1, nm, z2, z3⟩ := k7 z hz
      exact Or.inr ⟨z1, nm, hts _ z2, hnc.of z3⟩))
  rw [lg_entry_eq]
  exact G s.heap [] _ (w_in_LR hav1 hav2) hP hD va_S.rf
end LWA
