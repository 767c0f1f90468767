section SEA
abbrev wSea (g : gW) (N : Nat → Int) : va_W := [(gA g 31, .inr (1, [.ref (gA g 32)])), cI g 32 149 N]
abbrev fy (N : Nat → Int) (f k : Int) : Int := N (23 + f * 9 + k).toNat
abbrev tv (N : Nat → Int) (t k : Int) : Int := N (3 + t * 5 + k).toNat
abbrev sp_X1_ferryCount (g : gW) : wSp := wsp (fun (N : Nat → Int) => ([.ref (gA g 31)], wSea g N, fun K _ => K (some (.int (ii (N 0)))) (wSea g N)))
def sps_X1_ferryCount (g : gW) : Nat → wSp := fun k => match k with
  | _ => fun _ _ _ _ => False
abbrev qc_X1_ferryCount : List (Nat × List wAn) := w_cut q_X1_ferryCount []
theorem cqc_X1_ferryCount : qc_X1_ferryCount.all (fun q => ck_X1_ferryCount q.2 q.1) = true := w_cut_all cq_X1_ferryCount
theorem j_X1_ferryCount_0 {cst : List wC} {stf : wF} {cI cC cL : Nat} {sp : Nat → wSp} {ret : Option FieldType} {Q : wK} {QX : wX} {stop : wJp} {n : Nat} {lo : wLo} {st : List Value} {w : va_W} : wJ cst stf cI cC cL sp ret Q QX qc_X1_ferryCount stop (n + 1) 0 lo st w = wB cst stf cI cC cL sp ret Q QX (wJ cst stf cI cC cL sp ret Q QX qc_X1_ferryCount stop n) b_X1_ferryCount_0 0 lo st w := rfl
theorem rv_X1_ferryCount (g : gW) : ∀ av w K KX, sp_X1_ferryCount g av w K KX → ∃ b As fs, av = .ref b :: As ∧ w[0]? = some (b, .inr (1, fs)) := by
  rintro av w K KX ⟨N, rfl, rfl, hK⟩
  exact ⟨_, _, _, rfl, rfl⟩
theorem walk_X1_ferryCount (g : gW) : gWalk g (sps_X1_ferryCount g) (some .int) 1 ck_X1_ferryCount (sp_X1_ferryCount g) := by
  rintro av w K KX ⟨N, rfl, rfl, hK⟩
  refine ⟨⟨by simp [lg_sl, Value.category], rfl⟩, fun G hG => hG.go cqc_X1_ferryCount (stop := fun _ _ _ _ => False) (fun _ _ _ _ h => h.elim) 20 _ _ _ _ ?_⟩
  simp only [j_X1_ferryCount_0, b_X1_ferryCount_0, wr_iconst, wr_bipush, wr_sipush, wr_lconst0, wr_lconst1, wr_ldc, wr_ldc2_0, wr_ldc2_1, wr_dconst0, wr_dconst1, wr_iload_n0, wr_iload_n1, wr_iload_n2, wr_iload_n3, wr_iload, wr_lload_n0, wr_lload_n1, wr_lload_n2, wr_lload_n3, wr_lload, wr_dload_n0, wr_dload_n1, wr_dload_n2, wr_dload_n3, wr_dload, wr_aload_n0, wr_aload_n1, wr_aload_n2, wr_aload_n3, wr_aload, wr_istore_n0, wr_istore_n1, wr_istore_n2, wr_istore_n3, wr_istore, wr_astore_n0, wr_astore_n1, wr_astore_n2, wr_astore_n3, wr_astore, wr_lstore_n0, wr_lstore_n1, wr_lstore_n2, wr_lstore_n3, wr_lstore, wr_dstore_n0, wr_dstore_n1, wr_dstore_n2, wr_dstore_n3, wr_dstore, wr_iinc, wr_iadd, wr_isub, wr_imul, wr_iand, wr_ior, wr_irem, wr_ishl, wr_i2l, wr_i2c, wr_i2d, wr_d2l, wr_ladd, wr_lsub, wr_lmul, wr_lcmp, wr_ddiv, wr_dmul, wr_dsub, wr_dcmp, wr_dup, wr_pop, wr_dup2, wr_getfield, wr_putfield, wr_getstatic, wr_iaload_0, wr_iaload_1, wr_caload_0, wr_caload_1, wr_laload, wr_iastore, wr_castore, wr_lastore, wr_arraylength_0, wr_arraylength_1, wr_goto, wr_ifCond_eq, wr_ifCond_ne, wr_ifCond_lt, wr_ifCond_ge, wr_ifCond_gt, wr_ifCond_le, wr_if_icmp_eq, wr_if_icmp_ne, wr_if_icmp_lt, wr_if_icmp_ge, wr_if_icmp_gt, wr_if_icmp_le, wr_invokevirtual, wr_invokestatic, wr_ireturn, wr_lreturn, wr_dreturn, wr_return_, wr_nil, wr_cons, wr_pI, wr_pL, wr_pD, wr_pR, wr_pVI, wr_pVR, wr_gI0, wr_gIs, wr_gL0, wr_gLs, wr_gD0, wr_gDs, wr_gR0, wr_gRs, wr_s10, wr_s11I, wr_s11R, wr_s11N, wr_s11L, wr_s1s, wr_s20, wr_s21I, wr_s21R, wr_s21N, wr_s2s, wr_o0, wr_os, wr_a0, wr_as, wr_f0, wr_fs, wr_c0, wr_cs, wr_mid0, wr_mid1, wr_mids, wr_pre0, wr_pre1, wr_pres, wr_post0, wr_post1, wr_posts, wr_riI, wr_riB, wr_b0, wr_b1, wr_inI, wr_inR, wr_inL, wr_inD, wr_inN, wr_ts, wr_tn, wr_ca0, wr_ca1, wr_ca2, wr_ca3, wr_ca4, wr_ca5, wr_ca6, wr_ca7, wr_ca8, List.cons_append, List.nil_append, List.append_nil, List.set_cons_zero, List.set_cons_succ, List.drop_succ_cons, List.drop_zero, List.take_succ_cons, List.take_zero, List.length_cons, List.length_nil, Nat.reduceAdd, Nat.reduceDiv, Nat.reduceMod, Nat.reduceLeDiff, Nat.reduceLTLE, Nat.zero_add, Nat.le_refl, Nat.zero_le, List.replicate_succ, List.replicate_zero, Nat.reduceSub, true_and, and_true, and_self, eq_self]
  simp (disch := omega) only [ii_in, ii_cl, true_and]
  exact hK
set_option maxRecDepth 100000 in
theorem calls_X1_ferryCount (l : Launch) (g : gW)  (p : Program) (e : Env) (s : State) (m : MethodId) (args : Array Value) (below : List Frame) (meth : Method) (c : Code) (A : Nat → Prop) (Qf : State → Prop) (X : wCtx l g.1 vwCl (gTy g) (gCst g) (gStf g) (gSts g) p s m args c A cX1_ferryCount 1 RX1) : ∀ (k : Nat) (q : Instr × Nat), ct_X1_ferryCount[k]? = some q → wCall cX1_ferryCount (wG p l e rm_X1_ferryCount s m args below meth c Qf 0 0 g.1 vwCl A 1) (fun _ _ => False) q.1 q.2 (sps_X1_ferryCount g k) := by
  intro k q hk
  match k, hk with
  | k + 0, hk => exact absurd hk (by simp [ct_X1_ferryCount])
theorem c_X1_ferryCount (l : Launch) (hl : l.stackTraces = false) (g : gW) : gM l g yX1_ferryCount (wWs yX1_ferryCount cX1_ferryCount 1 (some .int)) rm_X1_ferryCount (sp_X1_ferryCount g) :=
  wMet_of (wo := o_X1_ferryCount) (ct := ct_X1_ferryCount) (sps := sps_X1_ferryCount g) (own := RX1) (by decide +kernel) rfl oi_X1_ferryCount w_tyok_vw (walk_X1_ferryCount g) (calls_X1_ferryCount l g )
end SEA
