section LWJ
variable {p : Program} {l : Launch} {e : Env} {s : State} {m : MethodId} {args : Array Value} {below : List Frame} {meth : Method} {c : Code} {Qf : State → Prop} {A : Nat → Prop}
/-- the addresses of what the law makes -/
def gNew (g : gW) (as : List Nat) : gW := (g.1, fun k => if k < 20 then gA g k else as.getD (k - 20) 0, g.2.2)
theorem lk_10 : Cond.classLink RL 10 RX3 ∈ wGT := List.mem_filter.mpr (by decide +kernel)
theorem in_X3 : Cond.instantiable RX3 6 ∈ wGT := List.mem_filter.mpr (by decide +kernel)
theorem iz_X3 : Cond.initialized RX3 ∈ wGT := List.mem_filter.mpr (by decide +kernel)
theorem ml_X3 : ∀ w ∈ [Cond.methodLink RL 90 yX3_init, .instanceMethod yX3_init, .initialized (yX3_init).cls, .code yX3_init cX3_init 1 none], w ∈ wGT := fun w hw => List.mem_filter.mpr ((by decide +kernel : ∀ w ∈ [Cond.methodLink RL 90 yX3_init, .instanceMethod yX3_init, .initialized (yX3_init).cls, .code yX3_init cX3_init 1 none], w ∈ lw_tbl ∧ goodWord w = true) w hw)
theorem gNew_X {g : gW} {as : List Nat} {cc : ByteArray} {nL : Nat} {own : String} (X : wCtx l g.1 vwCl (gTy g) (gCst g) (gStf g) (gSts g) p s m args c A cc nL own) : wCtx l (gNew g as).1 vwCl (gTy (gNew g as)) (gCst (gNew g as)) (gStf (gNew g as)) (gSts (gNew g as)) p s m args c A cc nL own := by
  obtain ⟨h1, h2, h3, h4⟩ := X
  refine ⟨h1, h2, ⟨h3.1, fun k q e => ?_, h3.2.2⟩, h4⟩
  have k4 : k < 3 := (List.getElem?_eq_some_iff.mp e).1
  have e2 : gStf (gNew g as) k = gStf g k := by
    unfold gStf gNew gA
    dsimp only
    rw [if_pos (by omega)]
  rw [e2]
  exact h3.2.1 k q e
end LWJ
section LWH
def zF : Nat → Int := fun _ => 0
theorem IN_0 : IN nSea := by
  refine ⟨⟨⟨by decide, by decide⟩, ?_, fun f h0 h1 => ?_⟩, fun t h0 h1 => ?_⟩
  · unfold okS
    decide
  · exact absurd h1 (by have e : nSea 0 = 0 := rfl; omega)
  · unfold okT1
    rcases (show t = 0 ∨ t = 1 ∨ t = 2 ∨ t = 3 by omega) with rfl | rfl | rfl | rfl <;> decide
theorem Ws_0 : okWs (zF, zF, zF, zF, zF, zF, 1540) := by
  refine ⟨fun k hk => ?_, fun k hk => ?_, fun _ _ => rfl⟩
  · simp [zF]
  · simp [zF]
end LWH
section LWK
variable {p : Program} {l : Launch} {e : Env} {s : State} {m : MethodId} {args : Array Value} {below : List Frame} {meth : Method} {c : Code} {Qf : State → Prop} {A : Nat → Prop}
def b_law_3 : List wAn := [(.dup, 1, 0, 0, 0)]
theorem ch_law_3 : ck_K_law b_law_3 3 = true := by decide +kernel
set_option maxRecDepth 100000 in
theorem lFin {g : gW} (hl : l.stackTraces = false) (X : wCtx l g.1 vwCl (gTy g) (gCst g) (gStf g) (gSts g) p s m args c A code 9 RL) (hret : ∀ (pc : Nat) (H : Heap) (ls : Array Slot), decode code pc = .ok (.ireturn, 1) → W p l e room_1 s m args below meth c H [] 600074 7301550 Qf (F0 m pc ls [.int 1])) (hA : ∀ q, A q → s.heap.size ≤ q) (hS : g.2.2.1 ≤ 260) {qT q0 q1 q2 q3 q4 q5 q6 q7 q8 q9 q10 q11 q12 : Nat} :
    wG p l e room_1 s m args below meth c Qf 14 2104 g.1 vwCl A 9 10 [some (.ref (gA g 7)), some (.ref qT), some (.int (ii 0)), none, none, none, none, none, none] [] (wN_X3_init g qT q0 q1 q2 q3 q4 q5 q6 q7 q8 q9 q10 q11 q12) := by
  have h := lw_first (g := gNew g [qT, q9, q10, q11, q2, q3, q4, q5, q6, q7, q8, q0, q1, q12]) (T := (zF, zF, 0, 0, 0, -1, -1)) (lOK_of (e := e) (below := below) (meth := meth) (Qf := Qf) hl (gNew_X X) hret hA rfl) (lAll_of hl (gNew_X X)) hS 7 0 14 2104 nSea zF (zF, zF, zF, zF, zF, zF, 1540) 0 0 rfl (by omega) (by omega) IN_0 (by decide) Ws_0
  exact wG_sub [0, 10, 11, 12, 3, 4, 5, 6, 7, 8, 9, 1, 2, 13] (by decide) rfl rfl h
set_option maxRecDepth 100000 in
theorem lStart {g : gW} (hl : l.stackTraces = false) (X : wCtx l g.1 vwCl (gTy g) (gCst g) (gStf g) (gSts g) p s m args c A code 9 RL) (hret : ∀ (pc : Nat) (H : Heap) (ls : Array Slot), decode code pc = .ok (.ireturn, 1) → W p l e room_1 s m args below meth c H [] 600074 7301550 Qf (F0 m pc ls [.int 1])) (hA : ∀ q, A q → s.heap.size ≤ q) (hS : g.2.2.1 ≤ 260) :
    wG p l e room_1 s m args below meth c Qf 0 0 g.1 vwCl A 9 0 [some (.ref (gA g 7)), none, none, none, none, none, none, none, none] [] [] := by
  have hO := lOK_of (e := e) (below := below) (meth := meth) (Qf := Qf) hl X hret hA rfl
  refine wG_new (ci := 3) (C := RX3) (T := TX3) (N := 6) (i := 10) (fs := [.null, .null, .null, .null, .int 0, .int 0]) X tyX3 tyX3_ok (fun w hw => oi_X3_init w ((by decide +kernel : ∀ w ∈ u_ws RX3 TX3 6, w ∈ o_X3_init) w hw)) (List.forall_mem_cons.mpr ⟨lk_10, List.forall_mem_cons.mpr ⟨in_X3, List.forall_mem_cons.mpr ⟨iz_X3, fun _ h => absurd h List.not_mem_nil⟩⟩⟩) rfl (by decide +kernel) (by decide) (by decide) (by decide +kernel) (fun qT => ?_)
  simp only [List.nil_append, Nat.zero_add]
  refine l_row hO (by omega) (by omega) ch_law_3 ?_
  simp (disch := omega) only [b_law_3, wr_iconst, wr_bipush, wr_sipush, wr_lconst0, wr_lconst1, wr_ldc, wr_ldc2_0, wr_ldc2_1, wr_dconst0, wr_dconst1, wr_iload_n0, wr_iload_n1, wr_iload_n2, wr_iload_n3, wr_iload, wr_lload_n0, wr_lload_n1, wr_lload_n2, wr_lload_n3, wr_lload, wr_dload_n0, wr_dload_n1, wr_dload_n2, wr_dload_n3, wr_dload, wr_aload_n0, wr_aload_n1, wr_aload_n2, wr_aload_n3, wr_aload, wr_istore_n0, wr_istore_n1, wr_istore_n2, wr_istore_n3, wr_istore, wr_astore_n0, wr_astore_n1, wr_astore_n2, wr_astore_n3, wr_astore, wr_lstore_n0, wr_lstore_n1, wr_lstore_n2, wr_lstore_n3, wr_lstore, wr_dstore_n0, wr_dstore_n1, wr_dstore_n2, wr_dstore_n3, wr_dstore, wr_iinc, wr_iadd, wr_isub, wr_imul, wr_iand, wr_ior, wr_irem, wr_idiv, wr_ishr, wr_ixor, wr_ishl, wr_i2l, wr_i2c, wr_i2d, wr_d2l, wr_ladd, wr_lsub, wr_lmul, wr_lcmp, wr_ddiv, wr_dmul, wr_dsub, wr_dcmp, wr_dup, wr_pop, wr_dup2, wr_getfield, wr_putfield, wr_getstatic, wr_iaload_0, wr_iaload_1, wr_iastore, wr_arraylength_0, wr_arraylength_1, wr_goto, wr_ifCond_eq, wr_ifCond_ne, wr_ifCond_lt, wr_ifCond_ge, wr_ifCond_gt, wr_ifCond_le, wr_if_icmp_eq, wr_if_icmp_ne, wr_if_icmp_lt, wr_if_icmp_ge, wr_if_icmp_gt, wr_if_icmp_le, wr_invokevirtual, wr_invokestatic, wr_ireturn, wr_lreturn, wr_dreturn, wr_return_, wr_nil, wr_cons, wr_pI, wr_pL, wr_pD, wr_pR, wr_pVI, wr_pVR, wr_gI0, wr_gIs, wr_gL0, wr_gLs, wr_gD0, wr_gDs, wr_gR0, wr_gRs, wr_s10, wr_s11I, wr_s11R, wr_s11N, wr_s11L, wr_s1s, wr_s20, wr_s21I, wr_s21R, wr_s21N, wr_s2s, wr_o0, wr_os, wr_a0, wr_as, wr_f0, wr_fs, wr_c0, wr_cs, wr_mid0, wr_mid1, wr_mids, wr_pre0, wr_pre1, wr_pres, wr_post0, wr_post1, wr_posts, wr_riI, wr_riB, wr_b0, wr_b1, wr_inI, wr_inR, wr_inL, wr_inD, wr_inN, wr_jc_eq, wr_jc_ne, wr_jc_lt, wr_jc_ge, wr_jc_gt, wr_jc_le, wr_j2_eq, wr_j2_ne, wr_j2_lt, wr_j2_ge, wr_j2_gt, wr_j2_le, wr_rl0, wr_rlI, wr_rlR, wr_rlL, wr_rlD, wr_ts, wr_tn, wr_ca0, wr_ca1, wr_ca2, wr_ca3, wr_ca4, wr_ca5, wr_ca6, wr_ca7, wr_ca8, List.cons_append, List.nil_append, List.append_nil, List.set_cons_zero, List.set_cons_succ, List.drop_succ_cons, List.drop_zero, List.take_succ_cons, List.take_zero, List.length_cons, List.length_nil, Nat.reduceAdd, Nat.reduceDiv, Nat.reduceMod, Nat.reduceLeDiff, Nat.zero_add, Nat.le_refl, Nat.zero_le, List.replicate_succ, List.replicate_zero, Nat.reduceSub, true_and, and_true, and_self, eq_self, gCst, gStf, w_z, Nat.reduceLT, ii_in, ii_cl, ii_add, ii_sub, ii_mul, ii_rem, ii_eq, ii_lt, ii_le, ii_eq0, ii_lt0, ii_gt0, ii_le0, ii_ge0, upd_ii, cpy_ii, Int.reduceLE, Int.reduceLT, Int.reduceEq, Int.reduceAdd, Int.reduceSub, Int.reduceMul, Int.reduceNeg, not_true_eq_false, not_false_eq_true, false_implies, true_implies, forall_const, implies_true, Int.reduceToNat]
  refine wG_init (y := yX3_init) (bytes := cX3_init) (maxL := 1) (index := 90) (mc := 13) (ms := 2098) (pre := []) (mid := [(qT, .inr (3, [.null, .null, .null, .null, .int 0, .int 0]))]) (post := []) (K := fun v w' => ∃ q0 q1 q2 q3 q4 q5 q6 q7 q8 q9 q10 q11 q12 : Nat, v = none ∧ w' = wN_X3_init g qT q0 q1 q2 q3 q4 q5 q6 q7 q8 q9 q10 q11 q12) (KX := fun _ _ => False) X (c_X3_init l g) ml_X3 ⟨rfl, rfl⟩ rfl (by decide +kernel) ⟨by decide, by decide⟩ ⟨by decide, by decide⟩ (by decide +kernel) ⟨qT, rfl, rfl, fun q0 q1 q2 q3 q4 q5 q6 q7 q8 q9 q10 q11 q12 => ⟨q0, q1, q2, q3, q4, q5, q6, q7, q8, q9, q10, q11, q12, rfl, rfl⟩⟩ (by simp [w_rl, Value.category]) ?_
  rintro v mid ⟨q0, q1, q2, q3, q4, q5, q6, q7, q8, q9, q10, q11, q12, rfl, rfl⟩
  refine l_row hO (by omega) (by omega) ch_K_law_7 ?_
  simp (disch := omega) only [b_K_law_7, wN_X3_init, Option.toList_none, wr_iconst, wr_bipush, wr_sipush, wr_lconst0, wr_lconst1, wr_ldc, wr_ldc2_0, wr_ldc2_1, wr_dconst0, wr_dconst1, wr_iload_n0, wr_iload_n1, wr_iload_n2, wr_iload_n3, wr_iload, wr_lload_n0, wr_lload_n1, wr_lload_n2, wr_lload_n3, wr_lload, wr_dload_n0, wr_dload_n1, wr_dload_n2, wr_dload_n3, wr_dload, wr_aload_n0, wr_aload_n1, wr_aload_n2, wr_aload_n3, wr_aload, wr_istore_n0, wr_istore_n1, wr_istore_n2, wr_istore_n3, wr_istore, wr_astore_n0, wr_astore_n1, wr_astore_n2, wr_astore_n3, wr_astore, wr_lstore_n0, wr_lstore_n1, wr_lstore_n2, wr_lstore_n3, wr_lstore, wr_dstore_n0, wr_dstore_n1, wr_dstore_n2, wr_dstore_n3, wr_dstore, wr_iinc, wr_iadd, wr_isub, wr_imul, wr_iand, wr_ior, wr_irem, wr_idiv, wr_ishr, wr_ixor, wr_ishl, wr_i2l, wr_i2c, wr_i2d, wr_d2l, wr_ladd, wr_lsub, wr_lmul, wr_lcmp, wr_ddiv, wr_dmul, wr_dsub, wr_dcmp, wr_dup, wr_pop, wr_dup2, wr_getfield, wr_putfield, wr_getstatic, wr_iaload_0, wr_iaload_1, wr_iastore, wr_arraylength_0, wr_arraylength_1, wr_goto, wr_ifCond_eq, wr_ifCond_ne, wr_ifCond_lt, wr_ifCond_ge, wr_ifCond_gt, wr_ifCond_le, wr_if_icmp_eq, wr_if_icmp_ne, wr_if_icmp_lt, wr_if_icmp_ge, wr_if_icmp_gt, wr_if_icmp_le, wr_invokevirtual, wr_invokestatic, wr_ireturn, wr_lreturn, wr_dreturn, wr_return_, wr_nil, wr_cons, wr_pI, wr_pL, wr_pD, wr_pR, wr_pVI, wr_pVR, wr_gI0, wr_gIs, wr_gL0, wr_gLs, wr_gD0, wr_gDs, wr_gR0, wr_gRs, wr_s10, wr_s11I, wr_s11R, wr_s11N, wr_s11L, wr_s1s, wr_s20, wr_s21I, wr_s21R, wr_s21N, wr_s2s, wr_o0, wr_os, wr_a0, wr_as, wr_f0, wr_fs, wr_c0, wr_cs, wr_mid0, wr_mid1, wr_mids, wr_pre0, wr_pre1, wr_pres, wr_post0, wr_post1, wr_posts, wr_riI, wr_riB, wr_b0, wr_b1, wr_inI, wr_inR, wr_inL, wr_inD, wr_inN, wr_jc_eq, wr_jc_ne, wr_jc_lt, wr_jc_ge, wr_jc_gt, wr_jc_le, wr_j2_eq, wr_j2_ne, wr_j2_lt, wr_j2_ge, wr_j2_gt, wr_j2_le, wr_rl0, wr_rlI, wr_rlR, wr_rlL, wr_rlD, wr_ts, wr_tn, wr_ca0, wr_ca1, wr_ca2, wr_ca3, wr_ca4, wr_ca5, wr_ca6, wr_ca7, wr_ca8, List.cons_append, List.nil_append, List.append_nil, List.set_cons_zero, List.set_cons_succ, List.drop_succ_cons, List.drop_zero, List.take_succ_cons, List.take_zero, List.length_cons, List.length_nil, Nat.reduceAdd, Nat.reduceDiv, Nat.reduceMod, Nat.reduceLeDiff, Nat.zero_add, Nat.le_refl, Nat.zero_le, List.replicate_succ, List.replicate_zero, Nat.reduceSub, true_and, and_true, and_self, eq_self, gCst, gStf, w_z, Nat.reduceLT, ii_in, ii_cl, ii_add, ii_sub, ii_mul, ii_rem, ii_eq, ii_lt, ii_le, ii_eq0, ii_lt0, ii_gt0, ii_le0, ii_ge0, upd_ii, cpy_ii, Int.reduceLE, Int.reduceLT, Int.reduceEq, Int.reduceAdd, Int.reduceSub, Int.reduceMul, Int.reduceNeg, not_true_eq_false, not_false_eq_true, false_implies, true_implies, forall_const, implies_true, Int.reduceToNat]
  exact lFin hl X hret hA hS
end LWK
