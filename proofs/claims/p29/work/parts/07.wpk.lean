section WPK
/-- the good ones of the tables' words: every contract here asks for these, and its own code -/
def wGT : List Cond := lw_tbl.filter goodWord
theorem wGT_in {w : Cond} (h : w ∈ wGT) : w ∈ lw_tbl := (List.mem_filter.mp h).1
theorem wGT_good {w : Cond} (h : w ∈ wGT) : (w.onTables && w.keeps) = true ∨ ∃ ty, w = .arrayClass ty := good_of_word (List.mem_filter.mp h).2
theorem wGT_of (ws : List Cond) (is : List Nat) (h : ws = is.filterMap (fun i => lw_tbl[i]?)) (hg : ws.all goodWord = true) : ∀ w ∈ ws, w ∈ wGT := by
  intro w hw
  have h1 := List.all_eq_true.mp hg w hw
  rw [h] at hw
  obtain ⟨i, -, hi⟩ := List.mem_filterMap.mp hw
  exact List.mem_filter.mpr ⟨List.mem_of_getElem? hi, h1⟩
def wWs (y : MethodName) (cc : ByteArray) (nL : Nat) (ret : Option FieldType) : List Cond := Cond.code y cc nL ret :: wGT
theorem wGood {ws : List Cond} {y : MethodName} {cc : ByteArray} {nL : Nat} {ret : Option FieldType} (h : ∀ w ∈ ws, w ∈ wGT) (hc : Cond.code y cc nL ret ∈ wGT) : GoodIn wGT (ws ++ wWs y cc nL ret) := by
  intro w hw
  rcases List.mem_append.mp hw with hw | hw
  · exact ⟨h w hw, wGT_good (h w hw)⟩
  · rcases List.mem_cons.mp hw with rfl | hw
    · exact ⟨hc, wGT_good hc⟩
    · exact ⟨hw, wGT_good hw⟩
theorem w_more {w x : Cond} {l : List Cond} (h : w ∈ l) : w ∈ l ++ [x] := List.mem_append_left _ h
theorem w_sumN : ∀ (rest : List Value) (n : Nat), w_rl n rest → (rest.map fun v => v.category).sum ≤ n := by
  intro rest
  induction rest with
  | nil => intro n _; simp
  | cons v t ih =>
    intro n h
    have h1 := h.1
    have h2 := ih _ h.2
    simp only [List.map_cons, List.sum_cons]
    omega
theorem w_sum4 (rest : List Value) (h : w_rl 8 rest) : (rest.map fun v => v.category).sum ≤ 8 := w_sumN rest 8 h
/-- what a contract's proof has at its start -/
def wCtx (l : Launch) (D : va_G) (cl : List vw_C) (tys : List (ClassId × FieldType)) (cst : List wC) (stf : wF) (sts : List wT) (p : Program) (s : State) (m : MethodId) (args : Array Value) (c : Code) (A : Nat → Prop) (cc : ByteArray) (nL : Nat) (own : String) : Prop :=
  CallFix p m c cc nL s args wGT own ∧ va_K D cl tys s ∧ wAmb cst stf sts A s s.heap ∧ ∀ q, s.heap.size ≤ q → A q
variable {p : Program} {l : Launch} {e : Env} {R : Room} {s : State} {m : MethodId} {args : Array Value} {below : List Frame} {meth : Method} {c : Code} {Qf : State → Prop} {c0 s0 : Nat}
variable {D : va_G} {cl : List vw_C} {cI cC cL : Nat} {A : Nat → Prop} {cc : ByteArray} {nL : Nat} {own : String} {cst : List wC} {stf : wF} {sts : List wT} {ret : Option FieldType} {Q : wK} {QX : wX} {tys : List (ClassId × FieldType)}
variable {y : MethodName} {bytes : ByteArray} {maxL n index : Nat} {ret' : Option FieldType} {ws' : List Cond} {rm : Room} {sp : wSp} {C : String} {T : u_T} {N ci : Nat}
theorem w_start {pre mid post : va_W} {H : Heap} {locs : List Loc} (hAm : wAmb cst stf sts A s s.heap) (hK : va_K D cl tys s) (hA : ∀ q, s.heap.size ≤ q → A q) (hP : va_P D cl (pre ++ (mid ++ post)) H) (hD : va_D A (pre ++ (mid ++ post))) (hS : va_S A s.heap H locs) :
    (∀ q, va_A mid H.size q → A q) ∧ ∀ U : State, U.heap = H → s.WarmedH U.vm → wU D cl tys cst stf sts H.size mid U := by
  have hDm := w_segD hD
  have hFc : ∀ q, va_A mid H.size q → A q := by
    rintro q (⟨k, z, h⟩ | h)
    · exact hDm.2 k (q, z) h
    · exact hA q (Nat.le_trans hS.1 h)
  refine ⟨hFc, fun U hU hW => ⟨by rw [hU], by rw [hU]; exact w_segP hP, hK.moved hW.alike, hDm.weaken (fun _ _ _ _ => trivial), ?_⟩⟩
  rw [hU]
  exact ((hAm.kept (fun a h1 h2 => hS.2.1 a h1 h2)).narrow hFc).warm hW
theorem w_locs {H H1 : Heap} {locs L : List Loc} {A1 : Nat → Prop} (hS : va_S A s.heap H locs) (hA : ∀ q, A1 q → A q) (hz : H.size ≤ H1.size) (hk : ∀ q : Nat, q < H.size → ¬ A1 q → H1[q]? = H[q]?) (hL : ∀ q ∈ L, A1 q.base) : va_S A s.heap H1 (locs ++ L) :=
  ⟨Nat.le_trans hS.1 hz, fun q h1 h2 => by rw [hk q (Nat.lt_of_lt_of_le h1 hS.1) (fun z => h2 (hA q z))]; exact hS.2.1 q h1 h2, fun q hq => by
      rcases List.mem_append.mp hq with h | h
      · exact hS.2.2 q h
      · exact hA _ (hL q h)⟩
/-- behind a call that returned -/
theorem w_ret {pre mid post : va_W} {H : Heap} {locs : List Loc} {ls : Array Slot} {pc : Nat} {st0 rest : List Value} {lo : wLo} {K : wK} {a : Array Value} (hK : va_K D cl tys s)
    (hr : va_Run p l e R s m args below meth c H locs c0 s0 0 0 (F0 m pc ls st0) rest (wQ D cl tys K (va_A mid H.size) a) (va_A mid H.size)) (hl : w_LR ls nL lo) (hP : va_P D cl (pre ++ (mid ++ post)) H) (hD : va_D A (pre ++ (mid ++ post))) (hS : va_S A s.heap H locs) (hFc : ∀ q, va_A mid H.size q → A q)
    (hk : ∀ v mid', K v mid' → wG p l e R s m args below meth c Qf c0 s0 D cl A nL (pc + 3) lo (v.toList ++ rest) (pre ++ (mid' ++ post))) : W p l e R s m args below meth c H locs c0 s0 Qf (F0 m pc ls st0) := by
  intro T hT X
  obtain ⟨v, st₀, t, T', L, h0, X', hL, e1, e2, ⟨⟨⟨v', w', hv, hKv, hP1, hK1, hD1⟩, hz, hkk⟩, hszz⟩, st⟩ := hr T hT X
  cases hv
  rw [h0] at hz hkk
  rw [← e1] at hz hkk hP1
  obtain ⟨hP2, hD2⟩ := w_back hP hD hkk hFc hP1 hD1
  obtain ⟨t2, a1, b1⟩ := hk v w' hKv T'.heap (locs ++ L) ls hl hP2 hD2 (w_locs hS hFc hz hkk hL) T' rfl X'
  exact ⟨t2, st t2 a1, b1⟩
theorem w_stk {b : Nat} {As rest : List Value} : (Value.ref b :: As).reverse ++ rest = As.reverse ++ .ref b :: rest := by simp
theorem wCall_V (X : wCtx l D cl tys cst stf sts p s m args c A cc nL own) (hM : wMet l D cl tys cst stf sts y ws' rm sp) (cw : CallW R s args own C index y bytes maxL ret' ws' rm 0 0 n) (hc : cl[ci]? = some (C, T, N)) (hf : c0 ≤ R.cells ∧ s0 ≤ R.slots)
    (hrecv : ∀ av w K KX, sp av w K KX → ∃ b As fs, av = .ref b :: As ∧ w[0]? = some (b, .inr (ci, fs))) : wCall cc (wG p l e R s m args below meth c Qf c0 s0 D cl A nL) QX (.invokevirtual index) (n + 1) sp := by
  obtain ⟨S, hK, hAm, hA⟩ := X
  intro pc av rest pre mid post lo K KX hd hlen hrest hsp hk hkx H locs ls hl hP hD hS
  obtain ⟨b, As, fs, rfl, hw0⟩ := hrecv _ _ _ _ hsp
  obtain ⟨hFc, hst⟩ := w_start (cst := cst) (stf := stf) (sts := sts) hAm hK hA hP hD hS
  refine w_ret hK (va_runV (As := As) (rest := rest) S (hM _ mid K KX H.size hsp) cw ⟨wU_blind, va_recv hK (w_segP hP) hc hw0, fun U hU hW => ⟨rfl, hst U hU hW⟩⟩ rfl (by simpa using hlen) hl.1 w_stk (lv_room (w_sum4 _ hrest)) hd hf) hl hP hD hS hFc hk
theorem wCall_S (X : wCtx l D cl tys cst stf sts p s m args c A cc nL own) (hM : wMet l D cl tys cst stf sts y ws' rm sp) (cw : CallB R s args own index y bytes maxL ret' ws' rm 0 0 n ∧ (Cond.static y).before args s = true) (hf : c0 ≤ R.cells ∧ s0 ≤ R.slots) :
    wCall cc (wG p l e R s m args below meth c Qf c0 s0 D cl A nL) QX (.invokestatic index) n sp := by
  obtain ⟨S, hK, hAm, hA⟩ := X
  intro pc av rest pre mid post lo K KX hd hlen hrest hsp hk hkx H locs ls hl hP hD hS
  obtain ⟨hFc, hst⟩ := w_start (cst := cst) (stf := stf) (sts := sts) hAm hK hA hP hD hS
  refine w_ret hK (va_runS (As := av) (rest := rest) S (hM _ mid K KX H.size hsp) cw ⟨wU_blind, fun U hU hW => ⟨rfl, hst U hU hW⟩⟩ rfl hlen hl.1 rfl (lv_room (w_sum4 _ hrest)) hd hf) hl hP hD hS hFc hk
theorem wCall_SN {host : String} (X : wCtx l D cl tys cst stf sts p s m args c A cc nL own) (hM : wMet l D cl tys cst stf sts y ws' rm sp) (cw : va_CN R s args own index y host bytes maxL ret' ws' rm 0 0 n ∧ (Cond.static y).before args s = true ∧ True) (hf : c0 ≤ R.cells ∧ s0 ≤ R.slots) :
    wCall cc (wG p l e R s m args below meth c Qf c0 s0 D cl A nL) QX (.invokestatic index) n sp := by
  obtain ⟨S, hK, hAm, hA⟩ := X
  intro pc av rest pre mid post lo K KX hd hlen hrest hsp hk hkx H locs ls hl hP hD hS
  obtain ⟨hFc, hst⟩ := w_start (cst := cst) (stf := stf) (sts := sts) hAm hK hA hP hD hS
  exact w_ret hK (va_runSN (As := av) (rest := rest) S (hM _ mid K KX H.size hsp) cw ⟨wU_blind, fun U hU hW => ⟨rfl, hst U hU hW⟩⟩ rfl hlen hl.1 rfl (lv_room (w_sum4 _ hrest)) hd hf) hl hP hD hS hFc hk
/-- the calls by what the tables say -/
theorem wCV (X : wCtx l D cl tys cst stf sts p s m args c A cc nL own) (hM : wMet l D cl tys cst stf sts y (wWs y bytes maxL ret') rm sp) (hw : ∀ w ∈ [Cond.methodLink own index y, .instanceMethod y, .selects C y y, .initialized C, .code y bytes maxL ret'], w ∈ wGT) (hr : rm.cells = 0 ∧ rm.slots = 0)
    (hd : y.cls = C ∧ y.cls ≠ "java/lang/invoke/MethodHandle" ∧ y.cls ≠ "java/lang/invoke/VarHandle" ∧ (parseMethodDescriptor y.desc).map (fun d => d.parameters.length) = some n) (hR : rm.frames + 1 ≤ R.frames ∧ 8 + (maxL + 11) + rm.locals ≤ R.locals) (hc : cl[ci]? = some (C, T, N)) (hf : c0 ≤ R.cells ∧ s0 ≤ R.slots)
    (hrecv : ∀ av w K KX, sp av w K KX → ∃ b As fs, av = .ref b :: As ∧ w[0]? = some (b, .inr (ci, fs))) : wCall cc (wG p l e R s m args below meth c Qf c0 s0 D cl A nL) QX (.invokevirtual index) (n + 1) sp :=
  wCall_V X hM (cwV n X.1.2.2.2.2 (wGood (ws := [Cond.methodLink own index y, .instanceMethod y, .selects C y y, .initialized C]) (fun w h => hw w (w_more (x := Cond.code y bytes maxL ret') h)) (hw _ (by simp))) rfl hr.1 hr.2 hd hR) hc hf hrecv
theorem wCS (X : wCtx l D cl tys cst stf sts p s m args c A cc nL own) (hM : wMet l D cl tys cst stf sts y (wWs y bytes maxL ret') rm sp) (hw : ∀ w ∈ [Cond.methodLink own index y, .static y, .initialized y.cls, .code y bytes maxL ret'], w ∈ wGT) (hr : rm.cells = 0 ∧ rm.slots = 0)
    (hd : y.cls ≠ "java/lang/invoke/MethodHandle" ∧ y.cls ≠ "java/lang/invoke/VarHandle" ∧ (parseMethodDescriptor y.desc).map (fun d => d.parameters.length) = some n) (hR : rm.frames + 1 ≤ R.frames ∧ 8 + (maxL + 11) + rm.locals ≤ R.locals) (hf : c0 ≤ R.cells ∧ s0 ≤ R.slots) :
    wCall cc (wG p l e R s m args below meth c Qf c0 s0 D cl A nL) QX (.invokestatic index) n sp :=
  wCall_S X hM (va_cwS n X.1.2.2.2.2 (wGood (ws := [Cond.methodLink own index y, .static y, .initialized y.cls]) (fun w h => hw w (w_more (x := Cond.code y bytes maxL ret') h)) (hw _ (by simp))) rfl hr.1 hr.2 hd hR) hf
/-- behind a call that may throw, by a method that lets it go on -/
theorem w_retX {Qc : Array Value → State → Outcome → State → Prop} {KX0 : wX} {pre mid post : va_W} {H : Heap} {locs : List Loc} {ls : Array Slot} {pc : Nat} {st0 rest : List Value} {lo : wLo} {K : wK} {KX : wX} {a : Array Value} (hK : va_K D cl tys s) (hno : ∀ x ∈ c.exceptionTable.toList, False) (hlocks : meth.locks = false)
    (hr : vx_Run p l e R s m args below meth c H locs 0 0 1 6 (F0 m pc ls st0) rest (wQ D cl tys K (va_A mid H.size) a) (wXC D cl tys KX (va_A mid H.size)) (va_A mid H.size)) (hl : w_LR ls nL lo) (hP : va_P D cl (pre ++ (mid ++ post)) H) (hD : va_D A (pre ++ (mid ++ post))) (hS : va_S A s.heap H locs) (hFc : ∀ q, va_A mid H.size q → A q)
    (hk : ∀ v mid', K v mid' → wG p l e R s m args below meth c (vx_MQ below Qc (wXC D cl tys KX0 A) args s 1 6 A) 0 0 D cl A nL (pc + 3) lo (v.toList ++ rest) (pre ++ (mid' ++ post)))
    (hx : ∀ E mid', KX E mid' → KX0 E (pre ++ (mid' ++ post))) : W p l e R s m args below meth c H locs 0 0 (vx_MQ below Qc (wXC D cl tys KX0 A) args s 1 6 A) (F0 m pc ls st0) := by
  refine w_size (fun hsz0 => ?_)
  intro T hT X
  rcases hr T hT X with ⟨v, st₀, t, T', L, h0, X', hL, e1, e2, ⟨⟨⟨v', w', hv, hKv, hP1, hK1, hD1⟩, hz, hkk⟩, hszz⟩, st⟩ | ⟨q, st₀, t, T', L, E, ce, h0, X', hL, e1, e2, ⟨w', hKE, hP1, hK1, hD1, hz, hkk⟩, hce, hcv, hcl, st⟩
  · cases hv
    rw [h0] at hz hkk hszz
    rw [← e1] at hz hkk hP1 hszz
    obtain ⟨hP2, hD2⟩ := w_back hP hD hkk hFc hP1 hD1
    obtain ⟨t2, a1, b1⟩ := hk v w' hKv T'.heap (locs ++ L) ls hl hP2 hD2 (w_locs hS hFc hz hkk hL) T' rfl (w_tight X' (by omega))
    exact ⟨t2, st t2 a1, b1⟩
  · rw [h0] at hz hkk
    rw [← e1] at hz hkk hP1 hce
    obtain ⟨hP2, hD2⟩ := w_back hP hD hkk hFc hP1 hD1
    have hS2 := w_locs hS hFc hz hkk hL
    obtain ⟨t2, a1, b1⟩ := vx_out (Qc := Qc) (XC := wXC D cl tys KX0 A) (below := below) (pc := pc) (ls := ls) (rest := rest) (mc := 1) (ms := 6) (free := A) (fun x hx => (hno x hx).elim) hlocks hce hcv hcl (fun t ht hal => ⟨_, hx E w' hKE, by rw [ht]; exact hP2, hK.moved hal, hD2, hS2.F ht⟩) hS2.2.2 (Nat.le_refl 1) (Nat.le_refl 6) T' rfl X'
    exact ⟨t2, st.trans a1, b1⟩
theorem wCall_VX {Qc : Array Value → State → Outcome → State → Prop} {KX0 : wX} (X : wCtx l D cl tys cst stf sts p s m args c A cc nL own) (hno : ∀ x ∈ c.exceptionTable.toList, False) (hlocks : meth.locks = false) (hM : wMetX l D cl tys cst stf sts y ws' rm sp) (cw : CallW R s args own C index y bytes maxL ret' ws' rm 1 6 n) (hc : cl[ci]? = some (C, T, N)) (hf : 1 ≤ R.cells ∧ 6 ≤ R.slots)
    (hrecv : ∀ av w K KX, sp av w K KX → ∃ b As fs, av = .ref b :: As ∧ w[0]? = some (b, .inr (ci, fs))) (hQX : ∀ E w, QX E w → KX0 E w) : wCall cc (wG p l e R s m args below meth c (vx_MQ below Qc (wXC D cl tys KX0 A) args s 1 6 A) 0 0 D cl A nL) QX (.invokevirtual index) (n + 1) sp := by
  obtain ⟨S, hK, hAm, hA⟩ := X
  intro pc av rest pre mid post lo K KX hd hlen hrest hsp hk hkx H locs ls hl hP hD hS
  obtain ⟨b, As, fs, rfl, hw0⟩ := hrecv _ _ _ _ hsp
  obtain ⟨hFc, hst⟩ := w_start (cst := cst) (stf := stf) (sts := sts) hAm hK hA hP hD hS
  exact w_retX hK hno hlocks (vx_runV (As := As) (rest := rest) S (hM _ mid K KX H.size hsp) cw ⟨wU_blind, va_recv hK (w_segP hP) hc hw0, fun U hU hW => ⟨rfl, hst U hU hW⟩⟩ rfl (by simpa using hlen) hl.1 w_stk (lv_room (w_sum4 _ hrest)) hd (by omega)) hl hP hD hS hFc hk (fun E mid' h => hQX _ _ (hkx E mid' h))
theorem wCall_SX {Qc : Array Value → State → Outcome → State → Prop} {KX0 : wX} (X : wCtx l D cl tys cst stf sts p s m args c A cc nL own) (hno : ∀ x ∈ c.exceptionTable.toList, False) (hlocks : meth.locks = false) (hM : wMetX l D cl tys cst stf sts y ws' rm sp) (cw : CallB R s args own index y bytes maxL ret' ws' rm 1 6 n ∧ (Cond.static y).before args s = true) (hf : 1 ≤ R.cells ∧ 6 ≤ R.slots)
    (hQX : ∀ E w, QX E w → KX0 E w) : wCall cc (wG p l e R s m args below meth c (vx_MQ below Qc (wXC D cl tys KX0 A) args s 1 6 A) 0 0 D cl A nL) QX (.invokestatic index) n sp := by
  obtain ⟨S, hK, hAm, hA⟩ := X
  intro pc av rest pre mid post lo K KX hd hlen hrest hsp hk hkx H locs ls hl hP hD hS
  obtain ⟨hFc, hst⟩ := w_start (cst := cst) (stf := stf) (sts := sts) hAm hK hA hP hD hS
  exact w_retX hK hno hlocks (vx_runS (As := av) (rest := rest) S (hM _ mid K KX H.size hsp) cw ⟨wU_blind, fun U hU hW => ⟨rfl, hst U hU hW⟩⟩ rfl hlen hl.1 rfl (lv_room (w_sum4 _ hrest)) hd (by omega)) hl hP hD hS hFc hk (fun E mid' h => hQX _ _ (hkx E mid' h))
theorem wCVX {Qc : Array Value → State → Outcome → State → Prop} {KX0 : wX} (X : wCtx l D cl tys cst stf sts p s m args c A cc nL own) (hno : ∀ x ∈ c.exceptionTable.toList, False) (hlocks : meth.locks = false) (hM : wMetX l D cl tys cst stf sts y (wWs y bytes maxL ret') rm sp) (hw : ∀ w ∈ [Cond.methodLink own index y, .instanceMethod y, .selects C y y, .initialized C, .code y bytes maxL ret'], w ∈ wGT) (hr : rm.cells = 1 ∧ rm.slots = 6)
    (hd : y.cls = C ∧ y.cls ≠ "java/lang/invoke/MethodHandle" ∧ y.cls ≠ "java/lang/invoke/VarHandle" ∧ (parseMethodDescriptor y.desc).map (fun d => d.parameters.length) = some n) (hR : rm.frames + 1 ≤ R.frames ∧ 8 + (maxL + 11) + rm.locals ≤ R.locals) (hc : cl[ci]? = some (C, T, N)) (hf : 1 ≤ R.cells ∧ 6 ≤ R.slots)
    (hrecv : ∀ av w K KX, sp av w K KX → ∃ b As fs, av = .ref b :: As ∧ w[0]? = some (b, .inr (ci, fs))) (hQX : ∀ E w, QX E w → KX0 E w) : wCall cc (wG p l e R s m args below meth c (vx_MQ below Qc (wXC D cl tys KX0 A) args s 1 6 A) 0 0 D cl A nL) QX (.invokevirtual index) (n + 1) sp :=
  wCall_VX X hno hlocks hM (cwV n X.1.2.2.2.2 (wGood (ws := [Cond.methodLink own index y, .instanceMethod y, .selects C y y, .initialized C]) (fun w h => hw w (w_more (x := Cond.code y bytes maxL ret') h)) (hw _ (by simp))) rfl hr.1 hr.2 hd hR) hc hf hrecv hQX
theorem wCSX {Qc : Array Value → State → Outcome → State → Prop} {KX0 : wX} (X : wCtx l D cl tys cst stf sts p s m args c A cc nL own) (hno : ∀ x ∈ c.exceptionTable.toList, False) (hlocks : meth.locks = false) (hM : wMetX l D cl tys cst stf sts y (wWs y bytes maxL ret') rm sp) (hw : ∀ w ∈ [Cond.methodLink own index y, .static y, .initialized y.cls, .code y bytes maxL ret'], w ∈ wGT) (hr : rm.cells = 1 ∧ rm.slots = 6)
    (hd : y.cls ≠ "java/lang/invoke/MethodHandle" ∧ y.cls ≠ "java/lang/invoke/VarHandle" ∧ (parseMethodDescriptor y.desc).map (fun d => d.parameters.length) = some n) (hR : rm.frames + 1 ≤ R.frames ∧ 8 + (maxL + 11) + rm.locals ≤ R.locals) (hf : 1 ≤ R.cells ∧ 6 ≤ R.slots) (hQX : ∀ E w, QX E w → KX0 E w) : wCall cc (wG p l e R s m args below meth c (vx_MQ below Qc (wXC D cl tys KX0 A) args s 1 6 A) 0 0 D cl A nL) QX (.invokestatic index) n sp :=
  wCall_SX X hno hlocks hM (va_cwS n X.1.2.2.2.2 (wGood (ws := [Cond.methodLink own index y, .static y, .initialized y.cls]) (fun w h => hw w (w_more (x := Cond.code y bytes maxL ret') h)) (hw _ (by simp))) rfl hr.1 hr.2 hd hR) hf hQX
/-- the locals with which a method begins -/
def w_in (av : List Value) (n : Nat) : wLo := match av, n with
  | [], n => List.replicate n none
  | v :: vs, n => match v with
    | .long _ => some v :: none :: w_in vs (n - 2)
    | .double _ => some v :: none :: w_in vs (n - 2)
    | _ => some v :: w_in vs (n - 1)
theorem w_in_mem : ∀ (av : List Value) (n k i : Nat) (v : Value), (w_in av n)[i]? = some (some v) → (k + i, v) ∈ lv_args k av := by
  intro av
  induction av with
  | nil =>
    intro n k i v h
    unfold w_in at h
    rw [List.getElem?_replicate] at h
    split at h <;> cases h
  | cons a vs ih =>
    intro n k i v h
    have two : ∀ n' : Nat, a.category = 2 → (some a :: none :: w_in vs n' : wLo)[i]? = some (some v) → (k + i, v) ∈ lv_args k (a :: vs) := by
      intro n' hc h
      unfold lv_args
      rw [if_pos hc]
      match i, h with
      | 0, h => simp at h; subst h; exact List.mem_cons_self
      | 1, h => simp at h
      | i + 2, h =>
        refine List.mem_cons_of_mem _ ?_
        have := ih n' (k + 2) i v (by simpa using h)
        rwa [show k + (i + 2) = k + 2 + i by omega]
    have one : ∀ n' : Nat, ¬ a.category = 2 → (some a :: w_in vs n' : wLo)[i]? = some (some v) → (k + i, v) ∈ lv_args k (a :: vs) := by
      intro n' hc h
      unfold lv_args
      rw [if_neg hc]
      match i, h with
      | 0, h => simp at h; subst h; exact List.mem_cons_self
      | i + 1, h =>
        refine List.mem_cons_of_mem _ ?_
        have := ih n' (k + 1) i v (by simpa using h)
        rwa [show k + (i + 1) = k + 1 + i by omega]
    cases a with
    | long x => exact two _ rfl h
    | double x => exact two _ rfl h
    | int x => exact one _ (by simp [Value.category]) h
    | float x => exact one _ (by simp [Value.category]) h
    | null => exact one _ (by simp [Value.category]) h
    | ref x => exact one _ (by simp [Value.category]) h
    | retAddr x => exact one _ (by simp [Value.category]) h
theorem w_in_LR {av : List Value} {n : Nat} (h : (lg_sl av).length ≤ n) (hn : (w_in av n).length = n) : w_LR ((lg_sl av ++ List.replicate (n - (lg_sl av).length) Slot.unset).toArray) n (w_in av n) := by
  obtain ⟨h1, h2, h3⟩ := lv_entry av h
  exact ⟨h1, h2, hn, fun i v hv => h3 (i, v) (by simpa using w_in_mem av n 0 i v hv)⟩
/-- a contract out of a walk -/
theorem wMet_of {wo : List Cond} {ct : List (Instr × Nat)} {sps : Nat → wSp} (hy : plainName y.cls = true) (hcl : own = y.cls) (hwo : ∀ w ∈ wo, w ∈ wGT) (hty : w_tyok cl)
    (hwalk : ∀ av w K KX, sp av w K KX → ((lg_sl av).length ≤ nL ∧ (w_in av nL).length = nL) ∧ ∀ G : wJp, wOK cst stf cI cC cL sps ret K (fun _ _ => False) (w_ckB wo own cl nL cc ct) G → G 0 (w_in av nL) [] w)
    (hcalls : ∀ (p : Program) (e : Env) (s : State) (m : MethodId) (args : Array Value) (below : List Frame) (meth : Method) (c : Code) (A : Nat → Prop) (Qf : State → Prop), wCtx l D cl (wTy cI cC cL) cst stf sts p s m args c A cc nL own →
      ∀ (k : Nat) (q : Instr × Nat), ct[k]? = some q → wCall cc (wG p l e rm s m args below meth c Qf 0 0 D cl A nL) (fun _ _ => False) q.1 q.2 (sps k)) :
    wMet l D cl (wTy cI cC cL) cst stf sts y (wWs y cc nL ret) rm sp := by
  intro av w K KX sz hsp
  obtain ⟨⟨hav1, hav2⟩, hw⟩ := hwalk av w K KX hsp
  refine Met.ofW (cc := cc) (maxL := nL) (ret := ret) hy rfl ?_
  intro p e s m args below meth c s₁ B hml hv
  obtain ⟨rfl, hsz, hP, hK, hD0, hAm⟩ := hv
  subst hsz
  have hx := B.exec
  have hb := B.bytes
  have hr := B.returns
  have hts0 := atoms_spec (ws := wWs y cc nL ret) B.pre
  have hts : ∀ w ∈ wGT, w.before av.toArray s = true := fun w hw => hts0 w (List.mem_cons_of_mem _ hw)
  have hown : s.vm.findClass own = some m.cls := by rw [hcl]; exact findClass_of_methodNamed B.named
  have hlocks := B.notSynchronized
  have hD := hD0.self (sz := s.heap.size)
  have hA : ∀ q : Nat, s.heap.size ≤ q → va_A w s.heap.size q := fun q h => Or.inr h
  have X : wCtx l D cl (wTy cI cC cL) cst stf sts p s m av.toArray c (va_A w s.heap.size) cc nL own := ⟨⟨hx, hb, hml, hown, hts⟩, hK, hAm, hA⟩
  have G := hw _ (wB_sound (nL := nL) (ct := ct) hx hb hown (fun w h => hts w (hwo w h)) hK hAm hty (wRet_of (A := va_A w s.heap.size) hx hb hr hlocks hK (fun _ _ h => h)) (hcalls p e s m av.toArray below meth c _ _ X))
  rw [lg_entry_eq]
  exact G s.heap [] _ (w_in_LR hav1 hav2) hP hD va_S.rf
theorem wMetX_of {wo : List Cond} {ct : List (Instr × Nat)} {sps : Nat → wSp} (hy : plainName y.cls = true) (hcl : own = y.cls) (hwo : ∀ w ∈ wo, w ∈ wGT) (hty : w_tyok cl)
    (hwalk : ∀ av w K KX, sp av w K KX → ((lg_sl av).length ≤ nL ∧ (w_in av nL).length = nL) ∧ ∀ G : wJp, wOK cst stf cI cC cL sps ret K KX (w_ckB wo own cl nL cc ct) G → G 0 (w_in av nL) [] w)
    (hcalls : ∀ (p : Program) (e : Env) (s : State) (m : MethodId) (args : Array Value) (below : List Frame) (meth : Method) (c : Code) (A : Nat → Prop) (Qc : Array Value → State → Outcome → State → Prop) (KX : wX), wCtx l D cl (wTy cI cC cL) cst stf sts p s m args c A cc nL own → (∀ x ∈ c.exceptionTable.toList, False) → meth.locks = false →
      ∀ (k : Nat) (q : Instr × Nat), ct[k]? = some q → wCall cc (wG p l e rm s m args below meth c (vx_MQ below Qc (wXC D cl (wTy cI cC cL) KX A) args s 1 6 A) 0 0 D cl A nL) KX q.1 q.2 (sps k)) :
    wMetX l D cl (wTy cI cC cL) cst stf sts y (wWs y cc nL ret) rm sp := by
  intro av w K KX sz hsp
  obtain ⟨⟨hav1, hav2⟩, hw⟩ := hwalk av w K KX hsp
  refine vx_ofW (cc := cc) (maxL := nL) (ret := ret) hy rfl ?_
  intro p e s m args below meth c s₁ B hml hno hv
  obtain ⟨rfl, hsz, hP, hK, hD0, hAm⟩ := hv
  subst hsz
  have hx := B.exec
  have hb := B.bytes
  have hr := B.returns
  have hts0 := atoms_spec (ws := wWs y cc nL ret) B.pre
  have hts : ∀ w ∈ wGT, w.before av.toArray s = true := fun w hw => hts0 w (List.mem_cons_of_mem _ hw)
  have hown : s.vm.findClass own = some m.cls := by rw [hcl]; exact findClass_of_methodNamed B.named
  have hlocks := B.notSynchronized
  have hD := hD0.self (sz := s.heap.size)
  have hA : ∀ q : Nat, s.heap.size ≤ q → va_A w s.heap.size q := fun q h => Or.inr h
  have X : wCtx l D cl (wTy cI cC cL) cst stf sts p s m av.toArray c (va_A w s.heap.size) cc nL own := ⟨⟨hx, hb, hml, hown, hts⟩, hK, hAm, hA⟩
  have G := hw _ (wB_sound (nL := nL) (ct := ct) hx hb hown (fun w h => hts w (hwo w h)) hK hAm hty (wRet_ofX (A := va_A w s.heap.size) (XC := wXC D cl (wTy cI cC cL) KX (va_A w s.heap.size)) hx hb hr hlocks hK (fun _ _ h => h)) (hcalls p e s m av.toArray below meth c _ _ KX X hno hlocks))
  rw [lg_entry_eq]
  exact G s.heap [] _ (w_in_LR hav1 hav2) hP hD va_S.rf
end WPK
