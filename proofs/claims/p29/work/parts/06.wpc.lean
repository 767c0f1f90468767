section WPB
variable {cst : List wC} {stf : wF} {cI cC cL : Nat} {sp : Nat → wSp} {ret : Option FieldType} {Q : wK} {QX : wX}
/-- G is a predicate of states that rows of instructions lead to -/
def wOK (cst : List wC) (stf : wF) (cI cC cL : Nat) (sp : Nat → wSp) (ret : Option FieldType) (Q : wK) (QX : wX) (ck : List wAn → Nat → Bool) (G : wJp) : Prop :=
  ∀ (J : wJp) (b : List wAn) (pc : Nat) (lo : wLo) (st : List Value) (w : va_W), ck b pc = true → (∀ pc lo st w, J pc lo st w → G pc lo st w) → wB cst stf cI cC cL sp ret Q QX J b pc lo st w → G pc lo st w
theorem w_lookup {bs : List (Nat × List wAn)} {pc : Nat} {b : List wAn} (h : bs.lookup pc = some b) : (pc, b) ∈ bs := by
  induction bs with
  | nil => cases h
  | cons a l ih =>
    obtain ⟨x, y⟩ := a
    rw [List.lookup_cons] at h
    split at h
    · rename_i hz
      cases h
      have : pc = x := by simpa using hz
      subst this
      exact List.mem_cons_self
    · exact List.mem_cons_of_mem _ (ih h)
theorem wOK.go {ck : List wAn → Nat → Bool} {G : wJp} (hG : wOK cst stf cI cC cL sp ret Q QX ck G) {bs : List (Nat × List wAn)} (hbs : bs.all (fun q => ck q.2 q.1) = true) {stop : wJp} (hs : ∀ pc lo st w, stop pc lo st w → G pc lo st w) :
    ∀ (n pc : Nat) (lo : wLo) (st : List Value) (w : va_W), wJ cst stf cI cC cL sp ret Q QX bs stop n pc lo st w → G pc lo st w := by
  intro n
  induction n with
  | zero => intro pc lo st w h; exact hs _ _ _ _ h
  | succ n ih =>
    intro pc lo st w h
    unfold wJ at h
    split at h
    · rename_i b hb
      exact hG _ b pc lo st w (List.all_eq_true.mp hbs (pc, b) (w_lookup hb)) ih h
    · exact hs _ _ _ _ h
/-- from a loop's head: its own row, then the others -/
theorem wOK.at {ck : List wAn → Nat → Bool} {G : wJp} (hG : wOK cst stf cI cC cL sp ret Q QX ck G) {bs : List (Nat × List wAn)} (hbs : bs.all (fun q => ck q.2 q.1) = true) {stop : wJp} (hs : ∀ pc lo st w, stop pc lo st w → G pc lo st w) (n : Nat) {b : List wAn} {pc : Nat} (hb : ck b pc = true) {lo : wLo} {st : List Value} {w : va_W}
    (h : wB cst stf cI cC cL sp ret Q QX (wJ cst stf cI cC cL sp ret Q QX bs stop n) b pc lo st w) : G pc lo st w := hG _ b pc lo st w hb (hG.go hbs hs n) h
end WPB
section WPC
variable {p : Program} {l : Launch} {e : Env} {R : Room} {s : State} {m : MethodId} {args : Array Value} {below : List Frame} {meth : Method} {c : Code} {Qf : State → Prop} {c0 s0 : Nat}
variable {D : va_G} {cl : List vw_C} {cI cC cL : Nat} {A : Nat → Prop} {cc : ByteArray} {nL : Nat} {ws : List Cond} {own : String} {cst : List wC} {stf : wF} {sts : List wT} {sp : Nat → wSp} {ret : Option FieldType} {Q : wK} {QX : wX} {J : wJp} {ct : List (Instr × Nat)}
def w_tyok (cl : List vw_C) : Prop := ∀ (ci : Nat) (C : String) (T : u_T) (N : Nat), cl[ci]? = some (C, T, N) → ∃ ty0 : Nat → FieldType, (∀ k, k < N → parseFieldDescriptor (T k).2.2.1 = some (ty0 k)) ∧ ∀ a, a < N → ∀ b, b < N → a ≠ b → (T a).2.1 ≠ (T b).2.1
theorem w_tyok_vw : w_tyok vwCl := by
  intro ci C T N h
  match ci, h with
  | 0, h => cases h; exact ⟨tyX0, tyX0_ok, nmX0⟩
  | 1, h => cases h; exact ⟨tyX1, tyX1_ok, nmX1⟩
  | 2, h => cases h; exact ⟨tyX2, tyX2_ok, nmX2⟩
  | 3, h => cases h; exact ⟨tyX3, tyX3_ok, nmX3⟩
  | n + 4, h => simp [vwCl] at h
theorem wB_sound (hx : p.tables.exec = Jvm.exec) (hb : c.code = cc) (hown : s.vm.findClass own = some m.cls) (hts : ∀ w ∈ ws, w.before args s = true) (hK : va_K D cl (wTy cI cC cL) s) (hAm : wAmb cst stf sts A s s.heap) (hty : w_tyok cl)
    (hRet : wRet cc (wG p l e R s m args below meth c Qf c0 s0 D cl A nL) ret Q)
    (hCall : ∀ (k : Nat) (q : Instr × Nat), ct[k]? = some q → wCall cc (wG p l e R s m args below meth c Qf c0 s0 D cl A nL) QX q.1 q.2 (sp k)) :
    wOK cst stf cI cC cL sp ret Q QX (w_ckB ws own cl nL cc ct) (wG p l e R s m args below meth c Qf c0 s0 D cl A nL) := by
  intro J b
  induction b with
  | nil => intro pc lo st w _ hJ h; exact hJ _ _ _ _ h
  | cons a b ih =>
    intro pc lo st w hck hJ h
    have hck : (w_ck ws own cl nL cc ct a pc && w_ckB ws own cl nL cc ct b (pc + a.2.1)) = true := hck
    rw [Bool.and_eq_true] at hck
    exact wS_sound hx hb hown hts hK hAm hty hRet hCall hJ a pc hck.1 lo st w _ (fun lo st w h => ih _ lo st w hck.2 hJ h) h
/-- a method's start, and its two ends -/
def wU (D : va_G) (cl : List vw_C) (tys : List (ClassId × FieldType)) (cst : List wC) (stf : wF) (sts : List wT) (sz : Nat) (w : va_W) (U : State) : Prop := U.heap.size = sz ∧ va_P D cl w U.heap ∧ va_K D cl tys U ∧ va_D (fun _ => True) w ∧ wAmb cst stf sts (va_A w sz) U U.heap
def wQ (D : va_G) (cl : List vw_C) (tys : List (ClassId × FieldType)) (K : wK) (A : Nat → Prop) : Array Value → State → Outcome → State → Prop := fun _ st oc t => ((∃ v w', oc = .returned v ∧ K v w' ∧ va_P D cl w' t.heap ∧ va_K D cl tys t ∧ va_D A w') ∧ va_F A st t) ∧ t.heap.size ≤ st.heap.size
def wXC (D : va_G) (cl : List vw_C) (tys : List (ClassId × FieldType)) (KX : wX) (A : Nat → Prop) : String → State → State → Prop := fun E st t => ∃ w', KX E w' ∧ va_P D cl w' t.heap ∧ va_K D cl tys t ∧ va_D A w' ∧ va_F A st t
theorem wU_blind {tys : List (ClassId × FieldType)} {sz : Nat} {w : va_W} {av : List Value} : FrameBlind (va_Pc av (wU D cl tys cst stf sts sz w)) := by
  intro a U g mk h
  obtain ⟨h0, h1, h2, h3, h4, h5⟩ := h
  refine ⟨h0, h1, h2, va_K.moved (u := U) (U := U.calling g mk a) (Vm.Alike.refl U.vm) h3, h4, wAmb.same (s := U) (U := U.calling g mk a) rfl h5⟩
/-- the contract of a method that doesn't throw; of one that may -/
def wMet (l : Launch) (D : va_G) (cl : List vw_C) (tys : List (ClassId × FieldType)) (cst : List wC) (stf : wF) (sts : List wT) (y : MethodName) (ws : List Cond) (rm : Room) (sp : wSp) : Prop := ∀ (av : List Value) (w : va_W) (K : wK) (KX : wX) (sz : Nat), sp av w K KX →
  Met l y ws rm (va_Pc av (wU D cl tys cst stf sts sz w)) (wQ D cl tys K (va_A w sz)) 0 0 (va_A w sz)
def wMetX (l : Launch) (D : va_G) (cl : List vw_C) (tys : List (ClassId × FieldType)) (cst : List wC) (stf : wF) (sts : List wT) (y : MethodName) (ws : List Cond) (rm : Room) (sp : wSp) : Prop := ∀ (av : List Value) (w : va_W) (K : wK) (KX : wX) (sz : Nat), sp av w K KX →
  vx_Met l y ws rm (va_Pc av (wU D cl tys cst stf sts sz w)) (wQ D cl tys K (va_A w sz)) (wXC D cl tys KX (va_A w sz)) 1 6 (va_A w sz)
theorem w_size {H : Heap} {locs : List Loc} {g : JFrame} (k : H.size ≤ s.heap.size + c0 → W p l e R s m args below meth c H locs c0 s0 Qf g) : W p l e R s m args below meth c H locs c0 s0 Qf g := by
  intro T hT X
  refine k ?_ T hT X
  have h := X.same.2.2.1
  have h2 : (T.setVm s.vm).heap = H := hT
  rw [h2] at h
  exact h
theorem w_tight {T' : State} {locs' : List Loc} {k n : Nat} (X' : Stand p l e R s m args below meth c T' locs' k n) (h : T'.heap.size ≤ s.heap.size) : Stand p l e R s m args below meth c T' locs' 0 0 := by
  refine { X' with same := ?_ }
  obtain ⟨h1, h2, h3, h4, h5, h6⟩ := X'.same
  have hz : ((T'.setVm s.vm).heap.toList.drop s.heap.size) = [] := by
    apply List.drop_eq_nil_of_le
    rw [Array.length_toList]
    exact h
  refine ⟨h1, h2, by exact h, h4, ?_, h6⟩
  rw [hz]
  exact Nat.le_refl _
/-- the ends -/
theorem wRet_of {A : Nat → Prop} (hx : p.tables.exec = Jvm.exec) (hb : c.code = cc) (hr : meth.sig.returnType = ret) (hlocks : meth.locks = false) (hK : va_K D cl (wTy cI cC cL) s) {K : wK} (hQ : ∀ v w, Q v w → K v w) :
    wRet cc (wG p l e R s m args below meth c (MQ below (wQ D cl (wTy cI cC cL) K A) args s 0 0 A) 0 0 D cl A nL) ret Q := by
  intro pc i v lo w hd hv hq H locs ls hl hP hD hS
  refine w_size (fun hsz => ?_)
  have key : ∀ t : State, t.heap = H → s.WarmedH t.vm → wQ D cl (wTy cI cC cL) K A args s (.returned v) t := fun t ht hW =>
    ⟨⟨⟨v, w, rfl, hQ _ _ hq, by rw [ht]; exact hP, hK.moved hW.alike, hD⟩, hS.F ht⟩, by rw [ht]; exact hsz⟩
  unfold w_rv at hv
  split at hv
  · rename_i x
    unfold w_ri at hv
    split at hv
    · exact W.iret hx hb hr key hS.2.2 hd hlocks
    · refine W.zret (ty := .boolean) hx hb hr ?_ key hS.2.2 hd hlocks
      rcases hv with rfl | rfl <;> rfl
    · exact hv.elim
  · subst hv; exact W.lret hx hb hr key hS.2.2 hd hlocks
  · subst hv; exact W.dret hx hb hr key hS.2.2 hd hlocks
  · subst hv; exact W.vret hx hb hr key hS.2.2 hd hlocks
  · exact hv.elim
theorem wRet_ofX {A : Nat → Prop} (hx : p.tables.exec = Jvm.exec) (hb : c.code = cc) (hr : meth.sig.returnType = ret) (hlocks : meth.locks = false) (hK : va_K D cl (wTy cI cC cL) s) {K : wK} {XC : String → State → State → Prop} (hQ : ∀ v w, Q v w → K v w) :
    wRet cc (wG p l e R s m args below meth c (vx_MQ below (wQ D cl (wTy cI cC cL) K A) XC args s 1 6 A) 0 0 D cl A nL) ret Q := by
  intro pc i v lo w hd hv hq H locs ls hl hP hD hS
  refine w_size (fun hsz => ?_)
  have key : ∀ t : State, t.heap = H → s.WarmedH t.vm → wQ D cl (wTy cI cC cL) K A args s (.returned v) t := fun t ht hW =>
    ⟨⟨⟨v, w, rfl, hQ _ _ hq, by rw [ht]; exact hP, hK.moved hW.alike, hD⟩, hS.F ht⟩, by rw [ht]; exact hsz⟩
  refine W.widen (k := 1) (n := 6) (by omega) (by omega) (vx_ret ?_)
  unfold w_rv at hv
  split at hv
  · rename_i x
    unfold w_ri at hv
    split at hv
    · exact W.iret hx hb hr key hS.2.2 hd hlocks
    · refine W.zret (ty := .boolean) hx hb hr ?_ key hS.2.2 hd hlocks
      rcases hv with rfl | rfl <;> rfl
    · exact hv.elim
  · subst hv; exact W.lret hx hb hr key hS.2.2 hd hlocks
  · subst hv; exact W.dret hx hb hr key hS.2.2 hd hlocks
  · subst hv; exact W.vret hx hb hr key hS.2.2 hd hlocks
  · exact hv.elim
theorem va_P_app {a b : va_W} {H : Heap} (h1 : va_P D cl a H) (h2 : va_P D cl b H) : va_P D cl (a ++ b) H := va_P.app h1 h2
theorem w_mem {D : va_G} {cl : List vw_C} {w : va_W} {H : Heap} : va_P D cl w H ↔ ∀ q ∈ w, va_at D cl q H := by
  constructor
  · intro h q hq
    obtain ⟨k, hk⟩ := List.getElem?_of_mem hq
    exact h k q hk
  · intro h k q hk
    exact h q (List.mem_of_getElem? hk)
theorem w_dis {A : Nat → Prop} {w : va_W} : va_D A w ↔ w.Pairwise (fun a b => a.1 ≠ b.1) ∧ ∀ q ∈ w, A q.1 := by
  constructor
  · intro h
    refine ⟨List.pairwise_iff_getElem.mpr (fun i j hi hj hij he => ?_), fun q hq => ?_⟩
    · have := h.1 i j _ _ (List.getElem?_eq_getElem hi) (List.getElem?_eq_getElem hj) he
      omega
    · obtain ⟨k, hk⟩ := List.getElem?_of_mem hq
      exact h.2 k q hk
  · intro ⟨h1, h2⟩
    refine ⟨fun i j p q hi hj he => ?_, fun k q hk => h2 q (List.mem_of_getElem? hk)⟩
    rw [List.pairwise_iff_getElem] at h1
    obtain ⟨hi1, hi2⟩ := List.getElem?_eq_some_iff.mp hi
    obtain ⟨hj1, hj2⟩ := List.getElem?_eq_some_iff.mp hj
    rcases Nat.lt_trichotomy i j with h | h | h
    · exact absurd (by rw [hi2, hj2]; exact he) (h1 i j hi1 hj1 h)
    · exact h
    · exact absurd (by rw [hi2, hj2]; exact he.symm) (h1 j i hj1 hi1 h)
/-- the callee's cells among the caller's: before the call, and behind it -/
theorem w_segP {pre mid post : va_W} {H : Heap} (h : va_P D cl (pre ++ (mid ++ post)) H) : va_P D cl mid H := w_mem.mpr fun q hq => w_mem.mp h q (List.mem_append_right _ (List.mem_append_left _ hq))
theorem w_segD {A : Nat → Prop} {pre mid post : va_W} (h : va_D A (pre ++ (mid ++ post))) : va_D A mid := by
  obtain ⟨h1, h2⟩ := w_dis.mp h
  exact w_dis.mpr ⟨(List.pairwise_append.mp (List.pairwise_append.mp h1).2.1).1, fun q hq => h2 q (List.mem_append_right _ (List.mem_append_left _ hq))⟩
theorem w_back {A : Nat → Prop} {pre mid post mid' : va_W} {H H1 : Heap} (hP : va_P D cl (pre ++ (mid ++ post)) H) (hD : va_D A (pre ++ (mid ++ post))) (hk : ∀ q : Nat, q < H.size → ¬ va_A mid H.size q → H1[q]? = H[q]?) (hF : ∀ q, va_A mid H.size q → A q) (hP1 : va_P D cl mid' H1) (hD1 : va_D (va_A mid H.size) mid') :
    va_P D cl (pre ++ (mid' ++ post)) H1 ∧ va_D A (pre ++ (mid' ++ post)) := by
  obtain ⟨d1, d2⟩ := w_dis.mp hD
  obtain ⟨d3, d4, d5⟩ := List.pairwise_append.mp d1
  obtain ⟨d6, d7, d8⟩ := List.pairwise_append.mp d4
  obtain ⟨e1, e2⟩ := w_dis.mp hD1
  have out : ∀ q : Nat × va_E, (q ∈ pre ∨ q ∈ post) → q.1 < H.size ∧ ¬ va_A mid H.size q.1 := by
    intro q hq
    have hm : q ∈ pre ++ (mid ++ post) := hq.elim (fun h => List.mem_append_left _ h) (fun h => List.mem_append_right _ (List.mem_append_right _ h))
    have hl := (w_mem.mp hP q hm).lt
    refine ⟨hl, fun h => ?_⟩
    rcases h with ⟨k, z, h⟩ | h
    · have hz := List.mem_of_getElem? h
      rcases hq with hq | hq
      · exact d5 q hq (q.1, z) (List.mem_append_left _ hz) rfl
      · exact d8 (q.1, z) hz q hq rfl
    · omega
  constructor
  · refine w_mem.mpr fun q hq => ?_
    rcases List.mem_append.mp hq with hq | hq
    · obtain ⟨g1, g2⟩ := out q (Or.inl hq)
      exact (w_mem.mp hP q (List.mem_append_left _ hq)).kept (hk q.1 g1 g2)
    · rcases List.mem_append.mp hq with hq | hq
      · exact w_mem.mp hP1 q hq
      · obtain ⟨g1, g2⟩ := out q (Or.inr hq)
        exact (w_mem.mp hP q (List.mem_append_right _ (List.mem_append_right _ hq))).kept (hk q.1 g1 g2)
  · refine w_dis.mpr ⟨List.pairwise_append.mpr ⟨d3, List.pairwise_append.mpr ⟨e1, d7, fun a ha b hb he => ?_⟩, fun a ha b hb he => ?_⟩, fun q hq => ?_⟩
    · exact (out b (Or.inr hb)).2 (by rw [← he]; exact e2 a ha)
    · rcases List.mem_append.mp hb with hb | hb
      · exact (out a (Or.inl ha)).2 (by rw [he]; exact e2 b hb)
      · exact d5 a ha b (List.mem_append_right _ hb) he
    · rcases List.mem_append.mp hq with hq | hq
      · exact d2 q (List.mem_append_left _ hq)
      · rcases List.mem_append.mp hq with hq | hq
        · exact hF q.1 (e2 q hq)
        · exact d2 q (List.mem_append_right _ (List.mem_append_right _ hq))
end WPC
