noncomputable section PUBE
def shr (p : Int) : UInt64 := FP.ddiv (FP.i2d (ii p)) (UInt64.ofNat 4633078116657397760)
theorem shr_ok : ∀ p : Nat, p < 65 → shr p &&& 0x7fffffffffffffff ≤ 0x7ff0000000000000 := by decide +kernel
theorem shr_in {p : Int} (h : 0 ≤ p ∧ p ≤ 64) : vf_n64 (shr p) := by
  have h1 := shr_ok p.toNat (by omega)
  have h2 : ((p.toNat : Nat) : Int) = p := by omega
  rw [h2] at h1
  exact h1
theorem jpI_in (A : Nat → Int) (i : Int) : ∀ (n : Nat) (t p : Int), p ≤ jpI A i n t p ∧ jpI A i n t p ≤ p + n := by
  intro n
  induction n with
  | zero => intro t p; unfold jpI; omega
  | succ n ih =>
    intro t p
    unfold jpI
    split
    · have := ih (t + 1) (p + 1); omega
    · have := ih (t + 1) p; omega
theorem jpO_in (N : Nat → Int) : ∀ (n : Nat) (i : Int) (A : Nat → Int) (p : Int), p ≤ (jpO N n i A p).2 ∧ (jpO N n i A p).2 ≤ p + 8 * n := by
  intro n
  induction n with
  | zero =>
    intro i A p
    unfold jpO
    try dsimp only
    omega
  | succ n ih =>
    intro i A p
    unfold jpO
    have h1 := jpI_in (fArr N A i 0) i 8 0 p
    have h2 := ih (i + 1) (fArr N A i 0) (jpI (fArr N A i 0) i 8 0 p)
    try dsimp only
    omega
abbrev sp_X3_joined (g : gW) : wSp := wsp (fun ((N, V, T, W, sc, os) : tTF) => ([.ref (gA g 20)], wTF g N V T W sc os, fun K _ => okW N ∧ K (some (.double (shr (jpO N 8 0 W.1 0).2))) (wTF g N V T ((jpO N 8 0 W.1 0).1, W.2) sc os)))
def sps_X3_joined (g : gW) : Nat → wSp := fun k => match k with
  | 0 => sp_X3_joinedPairs g
  | _ => fun _ _ _ _ => False
theorem s0_X3_joined {g : gW} : sps_X3_joined g 0 = sp_X3_joinedPairs g := rfl
abbrev qc_X3_joined : List (Nat × List wAn) := w_cut q_X3_joined []
theorem cqc_X3_joined : qc_X3_joined.all (fun q => ck_X3_joined q.2 q.1) = true := w_cut_all cq_X3_joined
theorem j_X3_joined_0 {cst : List wC} {stf : wF} {cI cC cL : Nat} {sp : Nat → wSp} {ret : Option FieldType} {Q : wK} {QX : wX} {stop : wJp} {n : Nat} {lo : wLo} {st : List Value} {w : va_W} : wJ cst stf cI cC cL sp ret Q QX qc_X3_joined stop (n + 1) 0 lo st w = wB cst stf cI cC cL sp ret Q QX (wJ cst stf cI cC cL sp ret Q QX qc_X3_joined stop n) b_X3_joined_0 0 lo st w := rfl
theorem rv_X3_joined (g : gW) : ∀ av w K KX, sp_X3_joined g av w K KX → ∃ b As fs, av = .ref b :: As ∧ w[0]? = some (b, .inr (3, fs)) := by
  rintro av w K KX ⟨⟨a0, a1, a2, a3, a4, a5⟩, rfl, rfl, hK⟩
  exact ⟨_, _, _, rfl, rfl⟩
theorem walk_X3_joined (g : gW) : gWalk g (sps_X3_joined g) (some .double) 1 ck_X3_joined (sp_X3_joined g) := by
  rintro av w K KX ⟨⟨N, V, T, W, sc, os⟩, rfl, rfl, hW, hK⟩
  refine ⟨⟨by simp [lg_sl, Value.category], rfl⟩, fun G hG => hG.go cqc_X3_joined (stop := G) (fun _ _ _ _ h => h) 60 _ _ _ _ ?_⟩
  simp (disch := omega) only [j_X3_joined_0, b_X3_joined_0, s0_X3_joined, wr_iconst, wr_bipush, wr_sipush, wr_lconst0, wr_lconst1, wr_ldc, wr_ldc2_0, wr_ldc2_1, wr_dconst0, wr_dconst1, wr_iload_n0, wr_iload_n1, wr_iload_n2, wr_iload_n3, wr_iload, wr_lload_n0, wr_lload_n1, wr_lload_n2, wr_lload_n3, wr_lload, wr_dload_n0, wr_dload_n1, wr_dload_n2, wr_dload_n3, wr_dload, wr_aload_n0, wr_aload_n1, wr_aload_n2, wr_aload_n3, wr_aload, wr_istore_n0, wr_istore_n1, wr_istore_n2, wr_istore_n3, wr_istore, wr_astore_n0, wr_astore_n1, wr_astore_n2, wr_astore_n3, wr_astore, wr_lstore_n0, wr_lstore_n1, wr_lstore_n2, wr_lstore_n3, wr_lstore, wr_dstore_n0, wr_dstore_n1, wr_dstore_n2, wr_dstore_n3, wr_dstore, wr_iinc, wr_iadd, wr_isub, wr_imul, wr_iand, wr_ior, wr_irem, wr_idiv, wr_ishr, wr_ixor, wr_ishl, wr_i2l, wr_i2c, wr_i2d, wr_d2l, wr_ladd, wr_lsub, wr_lmul, wr_lcmp, wr_ddiv, wr_dmul, wr_dsub, wr_dcmp, wr_dup, wr_pop, wr_dup2, wr_getfield, wr_putfield, wr_getstatic, wr_iaload_0, wr_iaload_1, wr_iastore, wr_arraylength_0, wr_arraylength_1, wr_goto, wr_ifCond_eq, wr_ifCond_ne, wr_ifCond_lt, wr_ifCond_ge, wr_ifCond_gt, wr_ifCond_le, wr_if_icmp_eq, wr_if_icmp_ne, wr_if_icmp_lt, wr_if_icmp_ge, wr_if_icmp_gt, wr_if_icmp_le, wr_invokevirtual, wr_invokestatic, wr_ireturn, wr_lreturn, wr_dreturn, wr_return_, wr_nil, wr_cons, wr_pI, wr_pL, wr_pD, wr_pR, wr_pVI, wr_pVR, wr_gI0, wr_gIs, wr_gL0, wr_gLs, wr_gD0, wr_gDs, wr_gR0, wr_gRs, wr_s10, wr_s11I, wr_s11R, wr_s11N, wr_s11L, wr_s1s, wr_s20, wr_s21I, wr_s21R, wr_s21N, wr_s2s, wr_o0, wr_os, wr_a0, wr_as, wr_f0, wr_fs, wr_c0, wr_cs, wr_mid0, wr_mid1, wr_mids, wr_pre0, wr_pre1, wr_pres, wr_post0, wr_post1, wr_posts, wr_riI, wr_riB, wr_b0, wr_b1, wr_inI, wr_inR, wr_inL, wr_inD, wr_inN, wr_jc_eq, wr_jc_ne, wr_jc_lt, wr_jc_ge, wr_jc_gt, wr_jc_le, wr_j2_eq, wr_j2_ne, wr_j2_lt, wr_j2_ge, wr_j2_gt, wr_j2_le, wr_rl0, wr_rlI, wr_rlR, wr_rlL, wr_rlD, wr_ts, wr_tn, wr_ca0, wr_ca1, wr_ca2, wr_ca3, wr_ca4, wr_ca5, wr_ca6, wr_ca7, wr_ca8, List.cons_append, List.nil_append, List.append_nil, List.set_cons_zero, List.set_cons_succ, List.drop_succ_cons, List.drop_zero, List.take_succ_cons, List.take_zero, List.length_cons, List.length_nil, Nat.reduceAdd, Nat.reduceDiv, Nat.reduceMod, Nat.reduceLeDiff, Nat.zero_add, Nat.le_refl, Nat.zero_le, List.replicate_succ, List.replicate_zero, Nat.reduceSub, true_and, and_true, and_self, eq_self, gCst, gStf, w_z, Nat.reduceLT, ii_in, ii_cl, ii_add, ii_sub, ii_mul, ii_rem, ii_eq, ii_lt, ii_le, ii_eq0, ii_lt0, ii_gt0, ii_le0, ii_ge0, upd_ii, cpy_ii, Int.reduceLE, Int.reduceLT, Int.reduceEq, Int.reduceAdd, Int.reduceSub, Int.reduceMul, Int.reduceNeg, not_true_eq_false, not_false_eq_true, false_implies, true_implies, forall_const, implies_true, Int.reduceToNat]
  refine ⟨(N, V, T, W, sc, os), rfl, rfl, hW, ?_⟩
  have h1 := jpO_in N 8 0 W.1 0
  generalize jpO N 8 0 W.1 0 = r at h1 hK ⊢
  simp (disch := omega) only [j_X3_joined_0, b_X3_joined_0, s0_X3_joined, wr_iconst, wr_bipush, wr_sipush, wr_lconst0, wr_lconst1, wr_ldc, wr_ldc2_0, wr_ldc2_1, wr_dconst0, wr_dconst1, wr_iload_n0, wr_iload_n1, wr_iload_n2, wr_iload_n3, wr_iload, wr_lload_n0, wr_lload_n1, wr_lload_n2, wr_lload_n3, wr_lload, wr_dload_n0, wr_dload_n1, wr_dload_n2, wr_dload_n3, wr_dload, wr_aload_n0, wr_aload_n1, wr_aload_n2, wr_aload_n3, wr_aload, wr_istore_n0, wr_istore_n1, wr_istore_n2, wr_istore_n3, wr_istore, wr_astore_n0, wr_astore_n1, wr_astore_n2, wr_astore_n3, wr_astore, wr_lstore_n0, wr_lstore_n1, wr_lstore_n2, wr_lstore_n3, wr_lstore, wr_dstore_n0, wr_dstore_n1, wr_dstore_n2, wr_dstore_n3, wr_dstore, wr_iinc, wr_iadd, wr_isub, wr_imul, wr_iand, wr_ior, wr_irem, wr_idiv, wr_ishr, wr_ixor, wr_ishl, wr_i2l, wr_i2c, wr_i2d, wr_d2l, wr_ladd, wr_lsub, wr_lmul, wr_lcmp, wr_ddiv, wr_dmul, wr_dsub, wr_dcmp, wr_dup, wr_pop, wr_dup2, wr_getfield, wr_putfield, wr_getstatic, wr_iaload_0, wr_iaload_1, wr_iastore, wr_arraylength_0, wr_arraylength_1, wr_goto, wr_ifCond_eq, wr_ifCond_ne, wr_ifCond_lt, wr_ifCond_ge, wr_ifCond_gt, wr_ifCond_le, wr_if_icmp_eq, wr_if_icmp_ne, wr_if_icmp_lt, wr_if_icmp_ge, wr_if_icmp_gt, wr_if_icmp_le, wr_invokevirtual, wr_invokestatic, wr_ireturn, wr_lreturn, wr_dreturn, wr_return_, wr_nil, wr_cons, wr_pI, wr_pL, wr_pD, wr_pR, wr_pVI, wr_pVR, wr_gI0, wr_gIs, wr_gL0, wr_gLs, wr_gD0, wr_gDs, wr_gR0, wr_gRs, wr_s10, wr_s11I, wr_s11R, wr_s11N, wr_s11L, wr_s1s, wr_s20, wr_s21I, wr_s21R, wr_s21N, wr_s2s, wr_o0, wr_os, wr_a0, wr_as, wr_f0, wr_fs, wr_c0, wr_cs, wr_mid0, wr_mid1, wr_mids, wr_pre0, wr_pre1, wr_pres, wr_post0, wr_post1, wr_posts, wr_riI, wr_riB, wr_b0, wr_b1, wr_inI, wr_inR, wr_inL, wr_inD, wr_inN, wr_jc_eq, wr_jc_ne, wr_jc_lt, wr_jc_ge, wr_jc_gt, wr_jc_le, wr_j2_eq, wr_j2_ne, wr_j2_lt, wr_j2_ge, wr_j2_gt, wr_j2_le, wr_rl0, wr_rlI, wr_rlR, wr_rlL, wr_rlD, wr_ts, wr_tn, wr_ca0, wr_ca1, wr_ca2, wr_ca3, wr_ca4, wr_ca5, wr_ca6, wr_ca7, wr_ca8, List.cons_append, List.nil_append, List.append_nil, List.set_cons_zero, List.set_cons_succ, List.drop_succ_cons, List.drop_zero, List.take_succ_cons, List.take_zero, List.length_cons, List.length_nil, Nat.reduceAdd, Nat.reduceDiv, Nat.reduceMod, Nat.reduceLeDiff, Nat.zero_add, Nat.le_refl, Nat.zero_le, List.replicate_succ, List.replicate_zero, Nat.reduceSub, true_and, and_true, and_self, eq_self, gCst, gStf, w_z, Nat.reduceLT, ii_in, ii_cl, ii_add, ii_sub, ii_mul, ii_rem, ii_eq, ii_lt, ii_le, ii_eq0, ii_lt0, ii_gt0, ii_le0, ii_ge0, upd_ii, cpy_ii, Int.reduceLE, Int.reduceLT, Int.reduceEq, Int.reduceAdd, Int.reduceSub, Int.reduceMul, Int.reduceNeg, not_true_eq_false, not_false_eq_true, false_implies, true_implies, forall_const, implies_true, Int.reduceToNat]
  have h2 := shr_in (p := r.2) (by omega)
  exact ⟨h2, hK⟩
set_option maxRecDepth 100000 in
theorem calls_X3_joined (l : Launch) (g : gW) (h_X3_joinedPairs : gM l g yX3_joinedPairs (wWs yX3_joinedPairs cX3_joinedPairs 4 (some .int)) rm_X3_joinedPairs (sp_X3_joinedPairs g)) (p : Program) (e : Env) (s : State) (m : MethodId) (args : Array Value) (below : List Frame) (meth : Method) (c : Code) (A : Nat → Prop) (Qf : State → Prop) (X : wCtx l g.1 vwCl (gTy g) (gCst g) (gStf g) (gSts g) p s m args c A cX3_joined 1 RX3) : ∀ (k : Nat) (q : Instr × Nat), ct_X3_joined[k]? = some q → wCall cX3_joined (wG p l e rm_X3_joined s m args below meth c Qf 0 0 g.1 vwCl A 1) (fun _ _ => False) q.1 q.2 (sps_X3_joined g k) := by
  intro k q hk
  match k, hk with
  | 0, hk => cases hk; exact wCV X h_X3_joinedPairs (fun w hw => oi_X3_joined w ((by decide +kernel : ∀ w ∈ [Cond.methodLink RX3 172 yX3_joinedPairs, .instanceMethod yX3_joinedPairs, .selects RX3 yX3_joinedPairs yX3_joinedPairs, .initialized RX3, .code yX3_joinedPairs cX3_joinedPairs 4 (some .int)], w ∈ o_X3_joined) w hw)) ⟨rfl, rfl⟩ (n := 0) (by decide +kernel) ⟨Nat.le_of_ble_eq_true rfl, Nat.le_of_ble_eq_true rfl⟩ (ci := 3) rfl ⟨Nat.zero_le _, Nat.zero_le _⟩ (rv_X3_joinedPairs g)
  | k + 1, hk => exact absurd hk (by simp [ct_X3_joined])
theorem c_X3_joined (l : Launch) (hl : l.stackTraces = false) (g : gW) : gM l g yX3_joined (wWs yX3_joined cX3_joined 1 (some .double)) rm_X3_joined (sp_X3_joined g) :=
  wMet_of (wo := o_X3_joined) (ct := ct_X3_joined) (sps := sps_X3_joined g) (own := RX3) (by decide +kernel) rfl oi_X3_joined w_tyok_vw (walk_X3_joined g) (calls_X3_joined l g (c_X3_joinedPairs l hl g))
end PUBE
