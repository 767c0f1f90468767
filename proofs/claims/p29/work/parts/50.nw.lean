section LNW
def wQ1 (D : va_G) (cl : List vw_C) (tys : List (ClassId × FieldType)) (K : wK) (A : Nat → Prop) : Array Value → State → Outcome → State → Prop := fun _ st oc t => ∃ v w', oc = .returned v ∧ K v w' ∧ va_P D cl w' t.heap ∧ va_K D cl tys t ∧ va_D A w' ∧ va_F A st t
/-! constructors: what they make -/
def wMN (l : Launch) (g : gW) (y : MethodName) (ws : List Cond) (rm : Room) (mc ms : Nat) (sp : wSp) : Prop := ∀ (av : List Value) (w : va_W) (K : wK) (KX : wX) (sz : Nat), sp av w K KX →
  Met l y ws rm (va_Pc av (wU g.1 vwCl (gTy g) (gCst g) (gStf g) (gSts g) sz w)) (wQ1 g.1 vwCl (gTy g) K (va_A w sz)) mc ms (va_A w sz)
variable {p : Program} {l : Launch} {e : Env} {R : Room} {s : State} {m : MethodId} {args : Array Value} {below : List Frame} {meth : Method} {c : Code} {Qf : State → Prop} {c0 s0 : Nat}
variable {D : va_G} {cl : List vw_C} {cI cC cL : Nat} {A : Nat → Prop} {cc : ByteArray} {nL : Nat} {own : String} {cst : List wC} {stf : wF} {sts : List wT} {ret : Option FieldType} {Q : wK} {tys : List (ClassId × FieldType)}
variable {y : MethodName} {bytes : ByteArray} {maxL index : Nat} {ret' : Option FieldType} {ws' : List Cond} {rm : Room} {sp : wSp} {C : String} {T : u_T} {N ci : Nat}
theorem wRet_n {k n mc ms : Nat} (hk1 : k ≤ mc) (hn1 : n ≤ ms) (hx : p.tables.exec = Jvm.exec) (hb : c.code = cc) (hr : meth.sig.returnType = ret) (hlocks : meth.locks = false) (hK : va_K D cl tys s) :
    wRet cc (wG p l e R s m args below meth c (MQ below (wQ1 D cl tys Q A) args s mc ms A) k n D cl A nL) ret Q := by
  intro pc i v lo w hd hv hq H locs ls hl hP hD hS
  have key : ∀ t : State, t.heap = H → s.WarmedH t.vm → wQ1 D cl tys Q A args s (.returned v) t := fun t ht hW =>
    ⟨v, w, rfl, hq, by rw [ht]; exact hP, hK.moved hW.alike, hD, hS.F ht⟩
  refine W.widen (k := mc) (n := ms) hk1 hn1 ?_
  unfold w_rv at hv
  split at hv
  · rename_i x
    unfold w_ri at hv
    split at hv
    · exact W.iret hx hb hr key hS.2.2 hd hlocks
    · refine W.zret (ty := .boolean) hx hb hr ?_ key hS.2.2 hd hlocks
      rcases hv with rfl | rfl <;> rfl
    · exact hv.elim
  · subst hv; exact W.lret hx hb hr key hS.2.2 hd hlocks
  · subst hv; exact W.dret hx hb hr key hS.2.2 hd hlocks
  · subst hv; exact W.vret hx hb hr key hS.2.2 hd hlocks
  · exact hv.elim
abbrev obW (own : String) (i : Nat) : List Cond := [.methodLink own i Lib.objectInit, .instanceMethod Lib.objectInit, .code Lib.objectInit ⟨#[0xb1]⟩ 1 none]
theorem wG_obj (X : wCtx l D cl tys cst stf sts p s m args c A cc nL own) {k n i a pc : Nat} {lo : wLo} {st : List Value} {w : va_W} (hw : ∀ x ∈ obW own i, x ∈ wGT) (hf : 1 ≤ R.frames) (hlo : 20 ≤ R.locals) (hd : decode cc pc = .ok (.invokespecial i, 3)) (hr : w_rl 8 st)
    (hk : wG p l e R s m args below meth c Qf k n D cl A nL (pc + 3) lo st w) : wG p l e R s m args below meth c Qf k n D cl A nL pc lo (.ref a :: st) w := by
  obtain ⟨⟨hx, hb, hml, hown, hts⟩, hK, hAm, hA⟩ := X
  intro H locs ls hl hP hD hS
  exact W.objInit hx hb hown (hts _ (hw _ (by simp))) (hts _ (hw _ (by simp))) (hts _ (hw _ (by simp))) rfl (by rw [hml]; exact hl.1) rfl hd hf (Nat.le_trans (Nat.add_le_add_right (lv_room (w_sum4 _ hr)) 12) hlo) (hk H locs ls hl hP hD hS)
theorem wG_arr (X : wCtx l D cl tys cst stf sts p s m args c A cc nL own) {k n N pc t0 : Nat} {cA : ClassId} {ty : FieldType} {a0 : vp_A} {z : Int32} {lo : wLo} {st : List Value} {w : va_W} {atype : ArrayType} (ht : tys[t0]? = some (cA, ty)) (hty : newarray.typeOf atype = ty) (hp : ∀ (U : State) (cB : ClassId), va_RA U cB ty → U.vm.findClass ("[" ++ ty.toString) = some cB) (harr : Cond.arrayClass ty ∈ wGT)
    (ha : ∀ cA : ClassId, vp_cell cA a0 = arrV cA N (fun _ => defaultValue ty)) (hz : ¬ z < 0) (hN : z.toNatClampNeg = N) (hby : N * componentBytes ty ≤ 536870912) (hc : k + 1 ≤ R.cells) (hs : n + N ≤ R.slots) (hd : decode cc pc = .ok (.newarray atype, 2))
    (hk : ∀ q : Nat, wG p l e R s m args below meth c Qf (k + 1) (n + N) D cl A nL (pc + 2) lo (.ref q :: st) (w ++ [(q, .inl (cA, a0))])) : wG p l e R s m args below meth c Qf k n D cl A nL pc lo (.int z :: st) w := by
  obtain ⟨⟨hx, hb, hml, hown, hts⟩, hK, hAm, hA⟩ := X
  intro H locs ls hl hP hD hS
  refine va_newa (atype := atype) hx hb (by rw [hty]; exact hts _ harr) hty hK hP hD hS hA ha hz hN hby hc hs hd (fun q cB H1 hK1 hP1 hD1 hS1 => ?_)
  have h1 := hp s cA (hK.2 t0 _ ht).2
  have h2 := hp s cB (hK1.2 tys.length (cB, ty) (by simp)).2
  rw [h1] at h2
  cases h2
  exact hk q H1 locs ls hl hP1 hD1 hS1
theorem wG_new (X : wCtx l D cl tys cst stf sts p s m args c A cc nL own) {k n i pc : Nat} {fs : List Value} {lo : wLo} {st : List Value} {w : va_W} (ty : Nat → FieldType) (hty : ∀ k, k < N → parseFieldDescriptor (T k).2.2.1 = some (ty k)) (hT : ∀ w ∈ u_ws C T N, w ∈ wGT) (hw : ∀ x ∈ [Cond.classLink own i C, .instantiable C N, .initialized C], x ∈ wGT)
    (hc : cl[ci]? = some (C, T, N)) (hfs : ∀ j, j < N → defaultValue (ty j) = vp_V fs j) (hk1 : k + 1 ≤ R.cells) (hs : n + N ≤ R.slots) (hd : decode cc pc = .ok (.new i, 3))
    (hk : ∀ q : Nat, wG p l e R s m args below meth c Qf (k + 1) (n + N) D cl A nL (pc + 3) lo (.ref q :: st) (w ++ [(q, .inr (ci, fs))])) : wG p l e R s m args below meth c Qf k n D cl A nL pc lo st w := by
  obtain ⟨⟨hx, hb, hml, hown, hts⟩, hK, hAm, hA⟩ := X
  intro H locs ls hl hP hD hS
  exact va_new hx hb hts hT ty hty hown (hts _ (hw _ (by simp))) (hts _ (hw _ (by simp))) (hts _ (hw _ (by simp))) hK hP hD hS hA hc hfs hk1 hs hd (fun q H1 hP1 hD1 hS1 => hk q H1 locs ls hl hP1 hD1 hS1)
theorem wG_putF (X : wCtx l D cl tys cst stf sts p s m args c A cc nL own) (hty : w_tyok cl) (hin : meth.name = "<init>") {k n i pc a : Nat} {fs : List Value} {lo : wLo} {st : List Value} {w : va_W} (q0 j : Nat) {ty : FieldType} {b : Nat} (he : w[q0]? = some (a, .inr (ci, fs))) (hc : cl[ci]? = some (own, T, N)) (hj : j < N)
    (hT : ∀ w ∈ u_ws own T N, w ∈ wGT) (hlk : Cond.fieldLink own i own (T j).2.1 (T j).2.2.1 ∈ wGT) (hfin : (T j).2.2.2 = true ∧ (T j).1 = own) (hpt : parseFieldDescriptor (T j).2.2.1 = some ty) (hn : narrow ty (.ref b) = .ref b ∧ fits ty (.ref b) = true) (hlen : j < fs.length) (hd : decode cc pc = .ok (.putfield i, 3))
    (hk : wG p l e R s m args below meth c Qf k n D cl A nL (pc + 3) lo st (w.set q0 (a, .inr (ci, fs.set j (.ref b))))) : wG p l e R s m args below meth c Qf k n D cl A nL pc lo (.ref b :: .ref a :: st) w := by
  obtain ⟨⟨hx, hb, hml, hown, hts⟩, hK, hAm, hA⟩ := X
  obtain ⟨ty0, ht1, ht2⟩ := hty ci own T N hc
  intro H locs ls hl hP hD hS
  exact va_putF (ref := own) (ty := ty) hx hb hts hT ty0 ht1 ht2 hown hK hP hD hS q0 he hc j hj (hts _ hlk) (fun x h => by rw [hfin.2] at h; exact h) hfin.1 hin hfin.2 hpt hn.1 hn.2 hlen hd (fun H1 locs1 hP1 hD1 hS1 => hk H1 locs1 ls hl hP1 hD1 hS1)
theorem wG_init {g : gW} {mc ms k n pc a : Nat} {pre mid post : va_W} {K : wK} {KX : wX} {st : List Value} {lo : wLo} (X : wCtx l g.1 vwCl (gTy g) (gCst g) (gStf g) (gSts g) p s m args c A cc nL own) (hM : wMN l g y (wWs y bytes maxL none) rm mc ms sp) (hw : ∀ w ∈ [Cond.methodLink own index y, .instanceMethod y, .initialized y.cls, .code y bytes maxL none], w ∈ wGT) (hrm : rm.cells = mc ∧ rm.slots = ms)
    (hy : y.name = "<init>") (hdd : y.cls ≠ "java/lang/invoke/MethodHandle" ∧ y.cls ≠ "java/lang/invoke/VarHandle" ∧ (parseMethodDescriptor y.desc).map (fun d => d.parameters.length) = some 0) (hR : rm.frames + 1 ≤ R.frames ∧ 8 + (maxL + 11) + rm.locals ≤ R.locals) (hf : k + mc ≤ R.cells ∧ n + ms ≤ R.slots) (hd : decode cc pc = .ok (.invokespecial index, 3))
    (hsp : sp [.ref a] mid K KX) (hrl : w_rl 8 st) (hk : ∀ v mid', K v mid' → wG p l e R s m args below meth c Qf (k + mc) (n + ms) g.1 vwCl A nL (pc + 3) lo (v.toList ++ st) (pre ++ (mid' ++ post))) : wG p l e R s m args below meth c Qf k n g.1 vwCl A nL pc lo (.ref a :: st) (pre ++ (mid ++ post)) := by
  obtain ⟨S, hK, hAm, hA⟩ := X
  intro H locs ls hl hP hD hS
  obtain ⟨hFc, hst⟩ := w_start (cst := gCst g) (stf := gStf g) (sts := gSts g) hAm hK hA hP hD hS
  have hts := S.2.2.2.2
  have hr := va_runI (l := l) (e := e) (R := R) (below := below) (meth := meth) (locs := locs) (cells := k) (slots := n) (As := []) (rest := st) (g := F0 m pc ls (.ref a :: st)) S (hM _ mid K KX H.size hsp) (cwI 0 hts (wGood (ws := []) (fun _ h => by cases h) (hw _ (by simp))) rfl hrm.1 hrm.2 (hts _ (hw _ (by simp))) (hts _ (hw _ (by simp))) (hts _ (hw _ (by simp))) hy hdd hR) ⟨wU_blind, fun U hU hW => ⟨rfl, hst U hU hW⟩⟩ rfl rfl hl.1 rfl (lv_room (w_sum4 _ hrl)) hd hf
  intro T hT X
  obtain ⟨v, st₀, t, T', L, h0, X', hL, e1, e2, ⟨v', w', hv, hKv, hP1, hK1, hD1, hz, hkk⟩, st⟩ := hr T hT X
  cases hv
  rw [h0] at hz hkk
  rw [← e1] at hz hkk hP1
  obtain ⟨hP2, hD2⟩ := w_back hP hD hkk hFc hP1 hD1
  obtain ⟨t2, a1, b1⟩ := hk v w' hKv T'.heap (locs ++ L) ls hl hP2 hD2 (w_locs hS hFc hz hkk hL) T' rfl X'
  exact ⟨t2, st t2 a1, b1⟩
/-- what a maker's walk may use -/
def nR_ok (l : Launch) (g : gW) (cc : ByteArray) (own : String) (wo : List Cond) (rm : Room) (nL : Nat) (K : wK) (G : Nat → Nat → wJp) : Prop := ∀ k n : Nat, k ≤ rm.cells → n ≤ rm.slots → gOK g (fun _ _ _ _ _ => False) none K (fun _ _ => False) (w_ckB wo own vwCl nL cc []) (G k n)
def nR_obj (l : Launch) (g : gW) (cc : ByteArray) (own : String) (wo : List Cond) (rm : Room) (nL : Nat) (K : wK) (G : Nat → Nat → wJp) : Prop := ∀ (k n i a pc : Nat) (lo : wLo) (st : List Value) (w : va_W), decode cc pc = .ok (.invokespecial i, 3) → (∀ x ∈ obW own i, x ∈ wGT) → w_rl 8 st → G k n (pc + 3) lo st w → G k n pc lo (.ref a :: st) w
def nR_arrI (l : Launch) (g : gW) (cc : ByteArray) (own : String) (wo : List Cond) (rm : Room) (nL : Nat) (K : wK) (G : Nat → Nat → wJp) : Prop := ∀ (k n N pc : Nat) (lo : wLo) (st : List Value) (w : va_W), decode cc pc = .ok (.newarray .int, 2) → Cond.arrayClass .int ∈ wGT → N ≤ 100000 → k + 1 ≤ rm.cells → n + N ≤ rm.slots → (∀ q : Nat, G (k + 1) (n + N) (pc + 2) lo (.ref q :: st) (w ++ [(q, .inl (gI g, N, .inl (fun _ => ii 0)))])) → G k n pc lo (.int (ii (N : Int)) :: st) w
def nR_new (l : Launch) (g : gW) (cc : ByteArray) (own : String) (wo : List Cond) (rm : Room) (nL : Nat) (K : wK) (G : Nat → Nat → wJp) : Prop := ∀ (k n i pc ci : Nat) (C : String) (T : u_T) (N : Nat) (fs : List Value) (lo : wLo) (st : List Value) (w : va_W) (ty : Nat → FieldType), decode cc pc = .ok (.new i, 3) → (∀ k, k < N → parseFieldDescriptor (T k).2.2.1 = some (ty k)) → (∀ w ∈ u_ws C T N, w ∈ wGT) → (∀ x ∈ [Cond.classLink own i C, .instantiable C N, .initialized C], x ∈ wGT) → vwCl[ci]? = some (C, T, N) → (∀ j, j < N → defaultValue (ty j) = vp_V fs j) →
    k + 1 ≤ rm.cells → n + N ≤ rm.slots → (∀ q : Nat, G (k + 1) (n + N) (pc + 3) lo (.ref q :: st) (w ++ [(q, .inr (ci, fs))])) → G k n pc lo st w
def nR_putF (l : Launch) (g : gW) (cc : ByteArray) (own : String) (wo : List Cond) (rm : Room) (nL : Nat) (K : wK) (G : Nat → Nat → wJp) : Prop := ∀ (k n i pc a b q0 j ci : Nat) (T : u_T) (N : Nat) (fs : List Value) (ty : FieldType) (lo : wLo) (st : List Value) (w : va_W), decode cc pc = .ok (.putfield i, 3) → w[q0]? = some (a, .inr (ci, fs)) → vwCl[ci]? = some (own, T, N) → j < N → (∀ w ∈ u_ws own T N, w ∈ wGT) → Cond.fieldLink own i own (T j).2.1 (T j).2.2.1 ∈ wGT → ((T j).2.2.2 = true ∧ (T j).1 = own) →
    parseFieldDescriptor (T j).2.2.1 = some ty → (narrow ty (.ref b) = .ref b ∧ fits ty (.ref b) = true) → j < fs.length → G k n (pc + 3) lo st (w.set q0 (a, .inr (ci, fs.set j (.ref b)))) → G k n pc lo (.ref b :: .ref a :: st) w
def nR_init (l : Launch) (g : gW) (cc : ByteArray) (own : String) (wo : List Cond) (rm : Room) (nL : Nat) (K : wK) (G : Nat → Nat → wJp) : Prop := ∀ (k n pc a index mc ms maxL : Nat) (pre mid : va_W) (K : wK) (KX : wX) (st : List Value) (lo : wLo) (y : MethodName) (bytes : ByteArray) (rmc : Room) (sp : wSp), decode cc pc = .ok (.invokespecial index, 3) → wMN l g y (wWs y bytes maxL none) rmc mc ms sp → (∀ w ∈ [Cond.methodLink own index y, .instanceMethod y, .initialized y.cls, .code y bytes maxL none], w ∈ wGT) → (rmc.cells = mc ∧ rmc.slots = ms) →
    y.name = "<init>" → (y.cls ≠ "java/lang/invoke/MethodHandle" ∧ y.cls ≠ "java/lang/invoke/VarHandle" ∧ (parseMethodDescriptor y.desc).map (fun d => d.parameters.length) = some 0) → (rmc.frames + 1 ≤ rm.frames ∧ 8 + (maxL + 11) + rmc.locals ≤ rm.locals) → k + mc ≤ rm.cells → n + ms ≤ rm.slots →
    sp [.ref a] mid K KX → w_rl 8 st → (∀ v mid', K v mid' → G (k + mc) (n + ms) (pc + 3) lo (v.toList ++ st) (pre ++ mid')) → G k n pc lo (.ref a :: st) (pre ++ mid)
def nR (l : Launch) (g : gW) (cc : ByteArray) (own : String) (wo : List Cond) (rm : Room) (nL : Nat) (K : wK) (G : Nat → Nat → wJp) : Prop := nR_ok l g cc own wo rm nL K G ∧ nR_obj l g cc own wo rm nL K G ∧ nR_arrI l g cc own wo rm nL K G ∧ nR_new l g cc own wo rm nL K G ∧ nR_putF l g cc own wo rm nL K G ∧ nR_init l g cc own wo rm nL K G
theorem nR.ok {l : Launch} {g : gW} {cc : ByteArray} {own : String} {wo : List Cond} {rm : Room} {nL : Nat} {K : wK} {G : Nat → Nat → wJp} (h : nR l g cc own wo rm nL K G) : nR_ok l g cc own wo rm nL K G := h.1
theorem nR.obj {l : Launch} {g : gW} {cc : ByteArray} {own : String} {wo : List Cond} {rm : Room} {nL : Nat} {K : wK} {G : Nat → Nat → wJp} (h : nR l g cc own wo rm nL K G) : nR_obj l g cc own wo rm nL K G := h.2.1
theorem nR.arrI {l : Launch} {g : gW} {cc : ByteArray} {own : String} {wo : List Cond} {rm : Room} {nL : Nat} {K : wK} {G : Nat → Nat → wJp} (h : nR l g cc own wo rm nL K G) : nR_arrI l g cc own wo rm nL K G := h.2.2.1
theorem nR.new {l : Launch} {g : gW} {cc : ByteArray} {own : String} {wo : List Cond} {rm : Room} {nL : Nat} {K : wK} {G : Nat → Nat → wJp} (h : nR l g cc own wo rm nL K G) : nR_new l g cc own wo rm nL K G := h.2.2.2.1
theorem nR.putF {l : Launch} {g : gW} {cc : ByteArray} {own : String} {wo : List Cond} {rm : Room} {nL : Nat} {K : wK} {G : Nat → Nat → wJp} (h : nR l g cc own wo rm nL K G) : nR_putF l g cc own wo rm nL K G := h.2.2.2.2.1
theorem nR.init {l : Launch} {g : gW} {cc : ByteArray} {own : String} {wo : List Cond} {rm : Room} {nL : Nat} {K : wK} {G : Nat → Nat → wJp} (h : nR l g cc own wo rm nL K G) : nR_init l g cc own wo rm nL K G := h.2.2.2.2.2
theorem nR_of {g : gW} {wo : List Cond} (X : wCtx l g.1 vwCl (gTy g) (gCst g) (gStf g) (gSts g) p s m args c A cc nL own) (hwo : ∀ w ∈ wo, w ∈ wGT) (hr : meth.sig.returnType = none) (hlocks : meth.locks = false) (hin : meth.name = "<init>") (hf : 1 ≤ rm.frames) (hlo : 20 ≤ rm.locals) {K : wK} :
    nR l g cc own wo rm nL K (fun k n => wG p l e rm s m args below meth c (MQ below (wQ1 g.1 vwCl (gTy g) K A) args s rm.cells rm.slots A) k n g.1 vwCl A nL) := by
  refine ⟨?_, ?_, ?_, ?_, ?_, ?_⟩
  · intro k n hk hn
    exact wB_sound (nL := nL) (ct := []) X.1.1 X.1.2.1 X.1.2.2.2.1 (fun w h => X.1.2.2.2.2 w (hwo w h)) X.2.1 X.2.2.1 w_tyok_vw (wRet_n hk hn X.1.1 X.1.2.1 hr hlocks X.2.1) (fun k q h => by cases h)
  · intro k n i a pc lo st w hd hw hrl hk
    exact wG_obj X hw hf hlo hd hrl hk
  · intro k n N pc lo st w hd harr hN hc hs hk
    exact wG_arr (N := N) (a0 := (N, .inl (fun _ => ii 0))) X (t0 := 0) rfl rfl (fun _ _ h => h) harr (fun _ => rfl) (by rw [ii_nat]; exact nI_pos (by omega)) (by rw [ii_nat]; exact nI_clamp (by omega)) (by show N * 4 ≤ _; omega) hc hs hd hk
  · intro k n i pc ci C T N fs lo st w ty hd hty hT hw hc hfs hk1 hs hk
    exact wG_new X ty hty hT hw hc hfs hk1 hs hd hk
  · intro k n i pc a b q0 j ci T N fs ty lo st w hd he hc hj hT hlk hfin hpt hn hlen hk
    exact wG_putF X w_tyok_vw hin q0 j he hc hj hT hlk hfin hpt hn hlen hd hk
  · intro k n pc a index mc ms maxL pre mid K KX st lo y bytes rmc sp hd hM hw hrm hy hdd hR hf1 hf2 hsp hrl hk
    have h := wG_init (pre := pre) (mid := mid) (post := []) (st := st) (lo := lo) X hM hw hrm hy hdd hR ⟨hf1, hf2⟩ hd hsp hrl (fun v mid' hv => by rw [List.append_nil]; exact hk v mid' hv)
    rwa [List.append_nil] at h
theorem wMN_of {g : gW} {wo : List Cond} (hy : plainName y.cls = true) (hcl : own = y.cls) (hi : y.name = "<init>") (hwo : ∀ w ∈ wo, w ∈ wGT) (hf : 1 ≤ rm.frames) (hlo : 20 ≤ rm.locals)
    (hwalk : ∀ av w K KX, sp av w K KX → ((lg_sl av).length ≤ nL ∧ (w_in av nL).length = nL) ∧ ∀ G : Nat → Nat → wJp, nR l g cc own wo rm nL K G → G 0 0 0 (w_in av nL) [] w) :
    wMN l g y (wWs y cc nL none) rm rm.cells rm.slots sp := by
  intro av w K KX sz hsp
  obtain ⟨⟨hav1, hav2⟩, hw⟩ := hwalk av w K KX hsp
  refine Met.ofW (cc := cc) (maxL := nL) (ret := none) hy rfl ?_
  intro p e s m args below meth c s₁ B hml hv
  obtain ⟨rfl, hsz, hP, hK, hD0, hAm⟩ := hv
  subst hsz
  have hx := B.exec
  have hb := B.bytes
  have hr := B.returns
  have hts0 := atoms_spec (ws := wWs y cc nL none) B.pre
  have hts : ∀ w ∈ wGT, w.before av.toArray s = true := fun w hw => hts0 w (List.mem_cons_of_mem _ hw)
  have hown : s.vm.findClass own = some m.cls := by rw [hcl]; exact findClass_of_methodNamed B.named
  have hin : meth.name = "<init>" := (name_of_methodNamed B.named B.method).1.trans hi
  have hlocks := B.notSynchronized
  have hD := hD0.self (sz := s.heap.size)
  have hA : ∀ q : Nat, s.heap.size ≤ q → va_A w s.heap.size q := fun q h => Or.inr h
  have X : wCtx l g.1 vwCl (gTy g) (gCst g) (gStf g) (gSts g) p s m av.toArray c (va_A w s.heap.size) cc nL own := ⟨⟨hx, hb, hml, hown, hts⟩, hK, hAm, hA⟩
  have G := hw _ (nR_of (K := K) (below := below) (e := e) X hwo hr hlocks hin hf hlo)
  rw [lg_entry_eq]
  exact G s.heap [] _ (w_in_LR hav1 hav2) hP hD va_S.rf
end LNW
