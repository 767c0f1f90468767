noncomputable section FARESB
def lcIn (N : Nat → Int) (m : Int) (M E : Nat → Int) (n : Nat) (i : Int) (F B : Nat → Int) (nb : Int) : (Nat → Int) × (Nat → Int) × Int := match n with
  | 0 => (F, B, nb)
  | n + 1 => if bitT (M (m % 100).toNat) i = false then lcIn N m M E n (i + 1) F B nb else lcIn N m M E n (i + 1) (cT N i m (E (m % 100 * 8 + i).toNat) F B nb).1 (cT N i m (E (m % 100 * 8 + i).toNat) F B nb).2.1 (cT N i m (E (m % 100 * 8 + i).toNat) F B nb).2.2
abbrev okM (M : Nat → Int) : Prop := ∀ k : Nat, k < 100 → 0 ≤ M k ∧ M k < 256
abbrev okE (E : Nat → Int) : Prop := ∀ k : Nat, k < 800 → -1 ≤ E k ∧ E k ≤ 400000
theorem lcIn_ok {N : Nat → Int} (hW : okW N) {m x : Int} {M E : Nat → Int} (hx : ∀ i : Int, 0 ≤ i → i < 8 → ¬ bitT (M (m % 100).toNat) i = false → -1 ≤ E (m % 100 * 8 + i).toNat ∧ E (m % 100 * 8 + i).toNat ≤ x) : ∀ (n : Nat) (i : Int) (F B : Nat → Int) (nb : Int), i + n = 8 → 0 ≤ i → okFa F x → okB B nb → okFa (lcIn N m M E n i F B nb).1 x ∧ okB (lcIn N m M E n i F B nb).2.1 (lcIn N m M E n i F B nb).2.2 := by
  intro n
  induction n with
  | zero => intro i F B nb _ _ h1 h2; exact ⟨h1, h2⟩
  | succ n ih =>
    intro i F B nb h1 h2 h3 h4
    unfold lcIn
    by_cases h5 : bitT (M (m % 100).toNat) i = false
    · rw [if_pos h5]; exact ih _ _ _ _ (by omega) (by omega) h3 h4
    · rw [if_neg h5]
      have h6 := cT_ok hW (i := i) (m := m) h3 h4 (hx i h2 (by omega) h5)
      exact ih _ _ _ _ (by omega) (by omega) h6.1 h6.2
abbrev sp_X2_letCome (g : gW) : wSp := wsp (fun ((m, A, S, F, B, M, E, nb, N) : Int × tWS) => ([.ref (gA g 24), .ref (gA g 31), .int (ii m)], wWS g A S F B M E nb N, fun K _ => (0 ≤ m ∧ m ≤ 10000) ∧ okW N ∧ okFa F 400000 ∧ okB B nb ∧ okM M ∧ okE E ∧ K none (wWS g A S (lcIn N m M E 8 0 F B nb).1 (lcIn N m M E 8 0 F B nb).2.1 (su M (m % 100).toNat 0) E (lcIn N m M E 8 0 F B nb).2.2 N)))
def sps_X2_letCome (g : gW) : Nat → wSp := fun k => match k with
  | 0 => sp_X2_comeTo g
  | _ => fun _ _ _ _ => False
theorem s0_X2_letCome {g : gW} : sps_X2_letCome g 0 = sp_X2_comeTo g := rfl
abbrev qc_X2_letCome : List (Nat × List wAn) := w_cut q_X2_letCome [8, 49]
theorem cqc_X2_letCome : qc_X2_letCome.all (fun q => ck_X2_letCome q.2 q.1) = true := w_cut_all cq_X2_letCome
theorem j_X2_letCome_0 {cst : List wC} {stf : wF} {cI cC cL : Nat} {sp : Nat → wSp} {ret : Option FieldType} {Q : wK} {QX : wX} {stop : wJp} {n : Nat} {lo : wLo} {st : List Value} {w : va_W} : wJ cst stf cI cC cL sp ret Q QX qc_X2_letCome stop (n + 1) 0 lo st w = wB cst stf cI cC cL sp ret Q QX (wJ cst stf cI cC cL sp ret Q QX qc_X2_letCome stop n) b_X2_letCome_0 0 lo st w := rfl
theorem j_X2_letCome_8 {cst : List wC} {stf : wF} {cI cC cL : Nat} {sp : Nat → wSp} {ret : Option FieldType} {Q : wK} {QX : wX} {stop : wJp} {n : Nat} {lo : wLo} {st : List Value} {w : va_W} : wJ cst stf cI cC cL sp ret Q QX qc_X2_letCome stop (n + 1) 8 lo st w = stop 8 lo st w := rfl
theorem ch_X2_letCome_8 : ck_X2_letCome b_X2_letCome_8 8 = true := List.all_eq_true.mp cq_X2_letCome (8, b_X2_letCome_8) (List.mem_of_getElem? (i := 1) rfl)
theorem j_X2_letCome_49 {cst : List wC} {stf : wF} {cI cC cL : Nat} {sp : Nat → wSp} {ret : Option FieldType} {Q : wK} {QX : wX} {stop : wJp} {n : Nat} {lo : wLo} {st : List Value} {w : va_W} : wJ cst stf cI cC cL sp ret Q QX qc_X2_letCome stop (n + 1) 49 lo st w = stop 49 lo st w := rfl
theorem ch_X2_letCome_49 : ck_X2_letCome b_X2_letCome_49 49 = true := List.all_eq_true.mp cq_X2_letCome (49, b_X2_letCome_49) (List.mem_of_getElem? (i := 2) rfl)
theorem j_X2_letCome_55 {cst : List wC} {stf : wF} {cI cC cL : Nat} {sp : Nat → wSp} {ret : Option FieldType} {Q : wK} {QX : wX} {stop : wJp} {n : Nat} {lo : wLo} {st : List Value} {w : va_W} : wJ cst stf cI cC cL sp ret Q QX qc_X2_letCome stop (n + 1) 55 lo st w = wB cst stf cI cC cL sp ret Q QX (wJ cst stf cI cC cL sp ret Q QX qc_X2_letCome stop n) b_X2_letCome_55 55 lo st w := rfl
theorem rv_X2_letCome (g : gW) : ∀ av w K KX, sp_X2_letCome g av w K KX → ∃ b As fs, av = .ref b :: As ∧ w[0]? = some (b, .inr (2, fs)) := by
  rintro av w K KX ⟨⟨a0, a1, a2, a3, a4, a5, a6, a7, a8⟩, rfl, rfl, hK⟩
  exact ⟨_, _, _, rfl, rfl⟩
theorem walk_X2_letCome (g : gW) : gWalk g (sps_X2_letCome g) none 5 ck_X2_letCome (sp_X2_letCome g) := by
  rintro av w K KX ⟨⟨m, A, S, F, B, M, E, nb, N⟩, rfl, rfl, h1, hW, hF, hB, hM, hE, hK⟩
  refine ⟨⟨by simp [lg_sl, Value.category], rfl⟩, fun G hG => ?_⟩
  have hMs := hM (m % 100).toNat (by omega)
  have L : ∀ (n : Nat) (i : Int) (F B : Nat → Int) (nb : Int), i + n = 8 → 0 ≤ i → okFa F 400000 → okB B nb → K none (wWS g A S (lcIn N m M E n i F B nb).1 (lcIn N m M E n i F B nb).2.1 (su M (m % 100).toNat 0) E (lcIn N m M E n i F B nb).2.2 N) → G 8 [some (.ref (gA g 24)), some (.ref (gA g 31)), some (.int (ii m)), some (.int (ii (m % 100))), some (.int (ii i))] [] (wWS g A S F B M E nb N) := by
    intro n
    induction n with
    | zero =>
      intro i F B nb h3 h4 h5 h6 h7
      have h8 : i = 8 := by omega
      subst h8
      refine hG.at cqc_X2_letCome (stop := G) (fun _ _ _ _ h => h) 60 ch_X2_letCome_8 ?_
      simp (disch := omega) only [j_X2_letCome_0, j_X2_letCome_8, j_X2_letCome_49, j_X2_letCome_55, b_X2_letCome_0, b_X2_letCome_8, b_X2_letCome_49, b_X2_letCome_55, s0_X2_letCome, wr_iconst, wr_bipush, wr_sipush, wr_lconst0, wr_lconst1, wr_ldc, wr_ldc2_0, wr_ldc2_1, wr_dconst0, wr_dconst1, wr_iload_n0, wr_iload_n1, wr_iload_n2, wr_iload_n3, wr_iload, wr_lload_n0, wr_lload_n1, wr_lload_n2, wr_lload_n3, wr_lload, wr_dload_n0, wr_dload_n1, wr_dload_n2, wr_dload_n3, wr_dload, wr_aload_n0, wr_aload_n1, wr_aload_n2, wr_aload_n3, wr_aload, wr_istore_n0, wr_istore_n1, wr_istore_n2, wr_istore_n3, wr_istore, wr_astore_n0, wr_astore_n1, wr_astore_n2, wr_astore_n3, wr_astore, wr_lstore_n0, wr_lstore_n1, wr_lstore_n2, wr_lstore_n3, wr_lstore, wr_dstore_n0, wr_dstore_n1, wr_dstore_n2, wr_dstore_n3, wr_dstore, wr_iinc, wr_iadd, wr_isub, wr_imul, wr_iand, wr_ior, wr_irem, wr_idiv, wr_ishr, wr_ixor, wr_ishl, wr_i2l, wr_i2c, wr_i2d, wr_d2l, wr_ladd, wr_lsub, wr_lmul, wr_lcmp, wr_ddiv, wr_dmul, wr_dsub, wr_dcmp, wr_dup, wr_pop, wr_dup2, wr_getfield, wr_putfield, wr_getstatic, wr_iaload_0, wr_iaload_1, wr_iastore, wr_arraylength_0, wr_arraylength_1, wr_goto, wr_ifCond_eq, wr_ifCond_ne, wr_ifCond_lt, wr_ifCond_ge, wr_ifCond_gt, wr_ifCond_le, wr_if_icmp_eq, wr_if_icmp_ne, wr_if_icmp_lt, wr_if_icmp_ge, wr_if_icmp_gt, wr_if_icmp_le, wr_invokevirtual, wr_invokestatic, wr_ireturn, wr_lreturn, wr_dreturn, wr_return_, wr_nil, wr_cons, wr_pI, wr_pL, wr_pD, wr_pR, wr_pVI, wr_pVR, wr_gI0, wr_gIs, wr_gL0, wr_gLs, wr_gD0, wr_gDs, wr_gR0, wr_gRs, wr_s10, wr_s11I, wr_s11R, wr_s11N, wr_s11L, wr_s1s, wr_s20, wr_s21I, wr_s21R, wr_s21N, wr_s2s, wr_o0, wr_os, wr_a0, wr_as, wr_f0, wr_fs, wr_c0, wr_cs, wr_mid0, wr_mid1, wr_mids, wr_pre0, wr_pre1, wr_pres, wr_post0, wr_post1, wr_posts, wr_riI, wr_riB, wr_b0, wr_b1, wr_inI, wr_inR, wr_inL, wr_inD, wr_inN, wr_jc_eq, wr_jc_ne, wr_jc_lt, wr_jc_ge, wr_jc_gt, wr_jc_le, wr_j2_eq, wr_j2_ne, wr_j2_lt, wr_j2_ge, wr_j2_gt, wr_j2_le, wr_rl0, wr_rlI, wr_rlR, wr_rlL, wr_rlD, wr_ts, wr_tn, wr_ca0, wr_ca1, wr_ca2, wr_ca3, wr_ca4, wr_ca5, wr_ca6, wr_ca7, wr_ca8, List.cons_append, List.nil_append, List.append_nil, List.set_cons_zero, List.set_cons_succ, List.drop_succ_cons, List.drop_zero, List.take_succ_cons, List.take_zero, List.length_cons, List.length_nil, Nat.reduceAdd, Nat.reduceDiv, Nat.reduceMod, Nat.reduceLeDiff, Nat.zero_add, Nat.le_refl, Nat.zero_le, List.replicate_succ, List.replicate_zero, Nat.reduceSub, true_and, and_true, and_self, eq_self, gCst, gStf, w_z, Nat.reduceLT, ii_in, ii_cl, ii_add, ii_sub, ii_mul, ii_rem, ii_eq, ii_lt, ii_le, ii_eq0, ii_lt0, ii_gt0, ii_le0, ii_ge0, upd_ii, cpy_ii, Int.reduceLE, Int.reduceLT, Int.reduceEq, Int.reduceAdd, Int.reduceSub, Int.reduceMul, Int.reduceNeg, not_true_eq_false, not_false_eq_true, false_implies, true_implies, forall_const, implies_true, Int.reduceToNat]
      exact h7
    | succ n ih =>
      intro i F B nb h3 h4 h5 h6 h7
      unfold lcIn at h7
      obtain ⟨b1, b2, b3⟩ := bit_all hMs (i := i) (by omega)
      have hEs := hE (m % 100 * 8 + i).toNat (by omega)
      have L49 : ∀ F B nb, okFa F 400000 → okB B nb → K none (wWS g A S (lcIn N m M E n (i + 1) F B nb).1 (lcIn N m M E n (i + 1) F B nb).2.1 (su M (m % 100).toNat 0) E (lcIn N m M E n (i + 1) F B nb).2.2 N) → G 49 [some (.ref (gA g 24)), some (.ref (gA g 31)), some (.int (ii m)), some (.int (ii (m % 100))), some (.int (ii i))] [] (wWS g A S F B M E nb N) := by
        intro F B nb k1 k2 k3
        refine hG.at cqc_X2_letCome (stop := G) (fun _ _ _ _ h => h) 60 ch_X2_letCome_49 ?_
        simp (disch := omega) only [j_X2_letCome_0, j_X2_letCome_8, j_X2_letCome_49, j_X2_letCome_55, b_X2_letCome_0, b_X2_letCome_8, b_X2_letCome_49, b_X2_letCome_55, s0_X2_letCome, wr_iconst, wr_bipush, wr_sipush, wr_lconst0, wr_lconst1, wr_ldc, wr_ldc2_0, wr_ldc2_1, wr_dconst0, wr_dconst1, wr_iload_n0, wr_iload_n1, wr_iload_n2, wr_iload_n3, wr_iload, wr_lload_n0, wr_lload_n1, wr_lload_n2, wr_lload_n3, wr_lload, wr_dload_n0, wr_dload_n1, wr_dload_n2, wr_dload_n3, wr_dload, wr_aload_n0, wr_aload_n1, wr_aload_n2, wr_aload_n3, wr_aload, wr_istore_n0, wr_istore_n1, wr_istore_n2, wr_istore_n3, wr_istore, wr_astore_n0, wr_astore_n1, wr_astore_n2, wr_astore_n3, wr_astore, wr_lstore_n0, wr_lstore_n1, wr_lstore_n2, wr_lstore_n3, wr_lstore, wr_dstore_n0, wr_dstore_n1, wr_dstore_n2, wr_dstore_n3, wr_dstore, wr_iinc, wr_iadd, wr_isub, wr_imul, wr_iand, wr_ior, wr_irem, wr_idiv, wr_ishr, wr_ixor, wr_ishl, wr_i2l, wr_i2c, wr_i2d, wr_d2l, wr_ladd, wr_lsub, wr_lmul, wr_lcmp, wr_ddiv, wr_dmul, wr_dsub, wr_dcmp, wr_dup, wr_pop, wr_dup2, wr_getfield, wr_putfield, wr_getstatic, wr_iaload_0, wr_iaload_1, wr_iastore, wr_arraylength_0, wr_arraylength_1, wr_goto, wr_ifCond_eq, wr_ifCond_ne, wr_ifCond_lt, wr_ifCond_ge, wr_ifCond_gt, wr_ifCond_le, wr_if_icmp_eq, wr_if_icmp_ne, wr_if_icmp_lt, wr_if_icmp_ge, wr_if_icmp_gt, wr_if_icmp_le, wr_invokevirtual, wr_invokestatic, wr_ireturn, wr_lreturn, wr_dreturn, wr_return_, wr_nil, wr_cons, wr_pI, wr_pL, wr_pD, wr_pR, wr_pVI, wr_pVR, wr_gI0, wr_gIs, wr_gL0, wr_gLs, wr_gD0, wr_gDs, wr_gR0, wr_gRs, wr_s10, wr_s11I, wr_s11R, wr_s11N, wr_s11L, wr_s1s, wr_s20, wr_s21I, wr_s21R, wr_s21N, wr_s2s, wr_o0, wr_os, wr_a0, wr_as, wr_f0, wr_fs, wr_c0, wr_cs, wr_mid0, wr_mid1, wr_mids, wr_pre0, wr_pre1, wr_pres, wr_post0, wr_post1, wr_posts, wr_riI, wr_riB, wr_b0, wr_b1, wr_inI, wr_inR, wr_inL, wr_inD, wr_inN, wr_jc_eq, wr_jc_ne, wr_jc_lt, wr_jc_ge, wr_jc_gt, wr_jc_le, wr_j2_eq, wr_j2_ne, wr_j2_lt, wr_j2_ge, wr_j2_gt, wr_j2_le, wr_rl0, wr_rlI, wr_rlR, wr_rlL, wr_rlD, wr_ts, wr_tn, wr_ca0, wr_ca1, wr_ca2, wr_ca3, wr_ca4, wr_ca5, wr_ca6, wr_ca7, wr_ca8, List.cons_append, List.nil_append, List.append_nil, List.set_cons_zero, List.set_cons_succ, List.drop_succ_cons, List.drop_zero, List.take_succ_cons, List.take_zero, List.length_cons, List.length_nil, Nat.reduceAdd, Nat.reduceDiv, Nat.reduceMod, Nat.reduceLeDiff, Nat.zero_add, Nat.le_refl, Nat.zero_le, List.replicate_succ, List.replicate_zero, Nat.reduceSub, true_and, and_true, and_self, eq_self, gCst, gStf, w_z, Nat.reduceLT, ii_in, ii_cl, ii_add, ii_sub, ii_mul, ii_rem, ii_eq, ii_lt, ii_le, ii_eq0, ii_lt0, ii_gt0, ii_le0, ii_ge0, upd_ii, cpy_ii, Int.reduceLE, Int.reduceLT, Int.reduceEq, Int.reduceAdd, Int.reduceSub, Int.reduceMul, Int.reduceNeg, not_true_eq_false, not_false_eq_true, false_implies, true_implies, forall_const, implies_true, Int.reduceToNat]
        exact ih (i + 1) F B nb (by omega) (by omega) k1 k2 k3
      refine hG.at cqc_X2_letCome (stop := G) (fun _ _ _ _ h => h) 60 ch_X2_letCome_8 ?_
      simp (disch := omega) only [j_X2_letCome_0, j_X2_letCome_8, j_X2_letCome_49, j_X2_letCome_55, b_X2_letCome_0, b_X2_letCome_8, b_X2_letCome_49, b_X2_letCome_55, s0_X2_letCome, wr_iconst, wr_bipush, wr_sipush, wr_lconst0, wr_lconst1, wr_ldc, wr_ldc2_0, wr_ldc2_1, wr_dconst0, wr_dconst1, wr_iload_n0, wr_iload_n1, wr_iload_n2, wr_iload_n3, wr_iload, wr_lload_n0, wr_lload_n1, wr_lload_n2, wr_lload_n3, wr_lload, wr_dload_n0, wr_dload_n1, wr_dload_n2, wr_dload_n3, wr_dload, wr_aload_n0, wr_aload_n1, wr_aload_n2, wr_aload_n3, wr_aload, wr_istore_n0, wr_istore_n1, wr_istore_n2, wr_istore_n3, wr_istore, wr_astore_n0, wr_astore_n1, wr_astore_n2, wr_astore_n3, wr_astore, wr_lstore_n0, wr_lstore_n1, wr_lstore_n2, wr_lstore_n3, wr_lstore, wr_dstore_n0, wr_dstore_n1, wr_dstore_n2, wr_dstore_n3, wr_dstore, wr_iinc, wr_iadd, wr_isub, wr_imul, wr_iand, wr_ior, wr_irem, wr_idiv, wr_ishr, wr_ixor, wr_ishl, wr_i2l, wr_i2c, wr_i2d, wr_d2l, wr_ladd, wr_lsub, wr_lmul, wr_lcmp, wr_ddiv, wr_dmul, wr_dsub, wr_dcmp, wr_dup, wr_pop, wr_dup2, wr_getfield, wr_putfield, wr_getstatic, wr_iaload_0, wr_iaload_1, wr_iastore, wr_arraylength_0, wr_arraylength_1, wr_goto, wr_ifCond_eq, wr_ifCond_ne, wr_ifCond_lt, wr_ifCond_ge, wr_ifCond_gt, wr_ifCond_le, wr_if_icmp_eq, wr_if_icmp_ne, wr_if_icmp_lt, wr_if_icmp_ge, wr_if_icmp_gt, wr_if_icmp_le, wr_invokevirtual, wr_invokestatic, wr_ireturn, wr_lreturn, wr_dreturn, wr_return_, wr_nil, wr_cons, wr_pI, wr_pL, wr_pD, wr_pR, wr_pVI, wr_pVR, wr_gI0, wr_gIs, wr_gL0, wr_gLs, wr_gD0, wr_gDs, wr_gR0, wr_gRs, wr_s10, wr_s11I, wr_s11R, wr_s11N, wr_s11L, wr_s1s, wr_s20, wr_s21I, wr_s21R, wr_s21N, wr_s2s, wr_o0, wr_os, wr_a0, wr_as, wr_f0, wr_fs, wr_c0, wr_cs, wr_mid0, wr_mid1, wr_mids, wr_pre0, wr_pre1, wr_pres, wr_post0, wr_post1, wr_posts, wr_riI, wr_riB, wr_b0, wr_b1, wr_inI, wr_inR, wr_inL, wr_inD, wr_inN, wr_jc_eq, wr_jc_ne, wr_jc_lt, wr_jc_ge, wr_jc_gt, wr_jc_le, wr_j2_eq, wr_j2_ne, wr_j2_lt, wr_j2_ge, wr_j2_gt, wr_j2_le, wr_rl0, wr_rlI, wr_rlR, wr_rlL, wr_rlD, wr_ts, wr_tn, wr_ca0, wr_ca1, wr_ca2, wr_ca3, wr_ca4, wr_ca5, wr_ca6, wr_ca7, wr_ca8, List.cons_append, List.nil_append, List.append_nil, List.set_cons_zero, List.set_cons_succ, List.drop_succ_cons, List.drop_zero, List.take_succ_cons, List.take_zero, List.length_cons, List.length_nil, Nat.reduceAdd, Nat.reduceDiv, Nat.reduceMod, Nat.reduceLeDiff, Nat.zero_add, Nat.le_refl, Nat.zero_le, List.replicate_succ, List.replicate_zero, Nat.reduceSub, true_and, and_true, and_self, eq_self, gCst, gStf, w_z, Nat.reduceLT, ii_in, ii_cl, ii_add, ii_sub, ii_mul, ii_rem, ii_eq, ii_lt, ii_le, ii_eq0, ii_lt0, ii_gt0, ii_le0, ii_ge0, upd_ii, cpy_ii, Int.reduceLE, Int.reduceLT, Int.reduceEq, Int.reduceAdd, Int.reduceSub, Int.reduceMul, Int.reduceNeg, not_true_eq_false, not_false_eq_true, false_implies, true_implies, forall_const, implies_true, Int.reduceToNat]
      rw [b1]
      refine ⟨fun h => by omega, fun _ => ⟨fun h => ?_, fun h => ?_⟩⟩
      · rw [if_pos h] at h7
        exact L49 _ _ _ h5 h6 h7
      · rw [if_neg h] at h7
        refine ⟨(i, m, E (m % 100 * 8 + i).toNat, A, S, F, B, M, E, nb, N), rfl, rfl, by omega, h1, hEs, hW, h5, h6, ?_⟩
        have h9 := cT_ok hW (i := i) (m := m) h5 h6 hEs
        generalize cT N i m (E (m % 100 * 8 + i).toNat) F B nb = r at h7 h9 ⊢
        simp (disch := omega) only [j_X2_letCome_0, j_X2_letCome_8, j_X2_letCome_49, j_X2_letCome_55, b_X2_letCome_0, b_X2_letCome_8, b_X2_letCome_49, b_X2_letCome_55, s0_X2_letCome, wr_iconst, wr_bipush, wr_sipush, wr_lconst0, wr_lconst1, wr_ldc, wr_ldc2_0, wr_ldc2_1, wr_dconst0, wr_dconst1, wr_iload_n0, wr_iload_n1, wr_iload_n2, wr_iload_n3, wr_iload, wr_lload_n0, wr_lload_n1, wr_lload_n2, wr_lload_n3, wr_lload, wr_dload_n0, wr_dload_n1, wr_dload_n2, wr_dload_n3, wr_dload, wr_aload_n0, wr_aload_n1, wr_aload_n2, wr_aload_n3, wr_aload, wr_istore_n0, wr_istore_n1, wr_istore_n2, wr_istore_n3, wr_istore, wr_astore_n0, wr_astore_n1, wr_astore_n2, wr_astore_n3, wr_astore, wr_lstore_n0, wr_lstore_n1, wr_lstore_n2, wr_lstore_n3, wr_lstore, wr_dstore_n0, wr_dstore_n1, wr_dstore_n2, wr_dstore_n3, wr_dstore, wr_iinc, wr_iadd, wr_isub, wr_imul, wr_iand, wr_ior, wr_irem, wr_idiv, wr_ishr, wr_ixor, wr_ishl, wr_i2l, wr_i2c, wr_i2d, wr_d2l, wr_ladd, wr_lsub, wr_lmul, wr_lcmp, wr_ddiv, wr_dmul, wr_dsub, wr_dcmp, wr_dup, wr_pop, wr_dup2, wr_getfield, wr_putfield, wr_getstatic, wr_iaload_0, wr_iaload_1, wr_iastore, wr_arraylength_0, wr_arraylength_1, wr_goto, wr_ifCond_eq, wr_ifCond_ne, wr_ifCond_lt, wr_ifCond_ge, wr_ifCond_gt, wr_ifCond_le, wr_if_icmp_eq, wr_if_icmp_ne, wr_if_icmp_lt, wr_if_icmp_ge, wr_if_icmp_gt, wr_if_icmp_le, wr_invokevirtual, wr_invokestatic, wr_ireturn, wr_lreturn, wr_dreturn, wr_return_, wr_nil, wr_cons, wr_pI, wr_pL, wr_pD, wr_pR, wr_pVI, wr_pVR, wr_gI0, wr_gIs, wr_gL0, wr_gLs, wr_gD0, wr_gDs, wr_gR0, wr_gRs, wr_s10, wr_s11I, wr_s11R, wr_s11N, wr_s11L, wr_s1s, wr_s20, wr_s21I, wr_s21R, wr_s21N, wr_s2s, wr_o0, wr_os, wr_a0, wr_as, wr_f0, wr_fs, wr_c0, wr_cs, wr_mid0, wr_mid1, wr_mids, wr_pre0, wr_pre1, wr_pres, wr_post0, wr_post1, wr_posts, wr_riI, wr_riB, wr_b0, wr_b1, wr_inI, wr_inR, wr_inL, wr_inD, wr_inN, wr_jc_eq, wr_jc_ne, wr_jc_lt, wr_jc_ge, wr_jc_gt, wr_jc_le, wr_j2_eq, wr_j2_ne, wr_j2_lt, wr_j2_ge, wr_j2_gt, wr_j2_le, wr_rl0, wr_rlI, wr_rlR, wr_rlL, wr_rlD, wr_ts, wr_tn, wr_ca0, wr_ca1, wr_ca2, wr_ca3, wr_ca4, wr_ca5, wr_ca6, wr_ca7, wr_ca8, List.cons_append, List.nil_append, List.append_nil, List.set_cons_zero, List.set_cons_succ, List.drop_succ_cons, List.drop_zero, List.take_succ_cons, List.take_zero, List.length_cons, List.length_nil, Nat.reduceAdd, Nat.reduceDiv, Nat.reduceMod, Nat.reduceLeDiff, Nat.zero_add, Nat.le_refl, Nat.zero_le, List.replicate_succ, List.replicate_zero, Nat.reduceSub, true_and, and_true, and_self, eq_self, gCst, gStf, w_z, Nat.reduceLT, ii_in, ii_cl, ii_add, ii_sub, ii_mul, ii_rem, ii_eq, ii_lt, ii_le, ii_eq0, ii_lt0, ii_gt0, ii_le0, ii_ge0, upd_ii, cpy_ii, Int.reduceLE, Int.reduceLT, Int.reduceEq, Int.reduceAdd, Int.reduceSub, Int.reduceMul, Int.reduceNeg, not_true_eq_false, not_false_eq_true, false_implies, true_implies, forall_const, implies_true, Int.reduceToNat]
        exact L49 _ _ _ h9.1 h9.2 h7
  refine hG.go cqc_X2_letCome (stop := G) (fun _ _ _ _ h => h) 60 _ _ _ _ ?_
  simp (disch := omega) only [j_X2_letCome_0, j_X2_letCome_8, j_X2_letCome_49, j_X2_letCome_55, b_X2_letCome_0, b_X2_letCome_8, b_X2_letCome_49, b_X2_letCome_55, s0_X2_letCome, wr_iconst, wr_bipush, wr_sipush, wr_lconst0, wr_lconst1, wr_ldc, wr_ldc2_0, wr_ldc2_1, wr_dconst0, wr_dconst1, wr_iload_n0, wr_iload_n1, wr_iload_n2, wr_iload_n3, wr_iload, wr_lload_n0, wr_lload_n1, wr_lload_n2, wr_lload_n3, wr_lload, wr_dload_n0, wr_dload_n1, wr_dload_n2, wr_dload_n3, wr_dload, wr_aload_n0, wr_aload_n1, wr_aload_n2, wr_aload_n3, wr_aload, wr_istore_n0, wr_istore_n1, wr_istore_n2, wr_istore_n3, wr_istore, wr_astore_n0, wr_astore_n1, wr_astore_n2, wr_astore_n3, wr_astore, wr_lstore_n0, wr_lstore_n1, wr_lstore_n2, wr_lstore_n3, wr_lstore, wr_dstore_n0, wr_dstore_n1, wr_dstore_n2, wr_dstore_n3, wr_dstore, wr_iinc, wr_iadd, wr_isub, wr_imul, wr_iand, wr_ior, wr_irem, wr_idiv, wr_ishr, wr_ixor, wr_ishl, wr_i2l, wr_i2c, wr_i2d, wr_d2l, wr_ladd, wr_lsub, wr_lmul, wr_lcmp, wr_ddiv, wr_dmul, wr_dsub, wr_dcmp, wr_dup, wr_pop, wr_dup2, wr_getfield, wr_putfield, wr_getstatic, wr_iaload_0, wr_iaload_1, wr_iastore, wr_arraylength_0, wr_arraylength_1, wr_goto, wr_ifCond_eq, wr_ifCond_ne, wr_ifCond_lt, wr_ifCond_ge, wr_ifCond_gt, wr_ifCond_le, wr_if_icmp_eq, wr_if_icmp_ne, wr_if_icmp_lt, wr_if_icmp_ge, wr_if_icmp_gt, wr_if_icmp_le, wr_invokevirtual, wr_invokestatic, wr_ireturn, wr_lreturn, wr_dreturn, wr_return_, wr_nil, wr_cons, wr_pI, wr_pL, wr_pD, wr_pR, wr_pVI, wr_pVR, wr_gI0, wr_gIs, wr_gL0, wr_gLs, wr_gD0, wr_gDs, wr_gR0, wr_gRs, wr_s10, wr_s11I, wr_s11R, wr_s11N, wr_s11L, wr_s1s, wr_s20, wr_s21I, wr_s21R, wr_s21N, wr_s2s, wr_o0, wr_os, wr_a0, wr_as, wr_f0, wr_fs, wr_c0, wr_cs, wr_mid0, wr_mid1, wr_mids, wr_pre0, wr_pre1, wr_pres, wr_post0, wr_post1, wr_posts, wr_riI, wr_riB, wr_b0, wr_b1, wr_inI, wr_inR, wr_inL, wr_inD, wr_inN, wr_jc_eq, wr_jc_ne, wr_jc_lt, wr_jc_ge, wr_jc_gt, wr_jc_le, wr_j2_eq, wr_j2_ne, wr_j2_lt, wr_j2_ge, wr_j2_gt, wr_j2_le, wr_rl0, wr_rlI, wr_rlR, wr_rlL, wr_rlD, wr_ts, wr_tn, wr_ca0, wr_ca1, wr_ca2, wr_ca3, wr_ca4, wr_ca5, wr_ca6, wr_ca7, wr_ca8, List.cons_append, List.nil_append, List.append_nil, List.set_cons_zero, List.set_cons_succ, List.drop_succ_cons, List.drop_zero, List.take_succ_cons, List.take_zero, List.length_cons, List.length_nil, Nat.reduceAdd, Nat.reduceDiv, Nat.reduceMod, Nat.reduceLeDiff, Nat.zero_add, Nat.le_refl, Nat.zero_le, List.replicate_succ, List.replicate_zero, Nat.reduceSub, true_and, and_true, and_self, eq_self, gCst, gStf, w_z, Nat.reduceLT, ii_in, ii_cl, ii_add, ii_sub, ii_mul, ii_rem, ii_eq, ii_lt, ii_le, ii_eq0, ii_lt0, ii_gt0, ii_le0, ii_ge0, upd_ii, cpy_ii, Int.reduceLE, Int.reduceLT, Int.reduceEq, Int.reduceAdd, Int.reduceSub, Int.reduceMul, Int.reduceNeg, not_true_eq_false, not_false_eq_true, false_implies, true_implies, forall_const, implies_true, Int.reduceToNat]
  exact L 8 0 F B nb (by omega) (by omega) hF hB hK
set_option maxRecDepth 100000 in
theorem calls_X2_letCome (l : Launch) (g : gW) (h_X2_comeTo : gM l g yX2_comeTo (wWs yX2_comeTo cX2_comeTo 6 none) rm_X2_comeTo (sp_X2_comeTo g)) (p : Program) (e : Env) (s : State) (m : MethodId) (args : Array Value) (below : List Frame) (meth : Method) (c : Code) (A : Nat → Prop) (Qf : State → Prop) (X : wCtx l g.1 vwCl (gTy g) (gCst g) (gStf g) (gSts g) p s m args c A cX2_letCome 5 RX2) : ∀ (k : Nat) (q : Instr × Nat), ct_X2_letCome[k]? = some q → wCall cX2_letCome (wG p l e rm_X2_letCome s m args below meth c Qf 0 0 g.1 vwCl A 5) (fun _ _ => False) q.1 q.2 (sps_X2_letCome g k) := by
  intro k q hk
  match k, hk with
  | 0, hk => cases hk; exact wCV X h_X2_comeTo (fun w hw => oi_X2_letCome w ((by decide +kernel : ∀ w ∈ [Cond.methodLink RX2 63 yX2_comeTo, .instanceMethod yX2_comeTo, .selects RX2 yX2_comeTo yX2_comeTo, .initialized RX2, .code yX2_comeTo cX2_comeTo 6 none], w ∈ o_X2_letCome) w hw)) ⟨rfl, rfl⟩ (n := 4) (by decide +kernel) ⟨Nat.le_of_ble_eq_true rfl, Nat.le_of_ble_eq_true rfl⟩ (ci := 2) rfl ⟨Nat.zero_le _, Nat.zero_le _⟩ (rv_X2_comeTo g)
  | k + 1, hk => exact absurd hk (by simp [ct_X2_letCome])
theorem c_X2_letCome (l : Launch) (hl : l.stackTraces = false) (g : gW) : gM l g yX2_letCome (wWs yX2_letCome cX2_letCome 5 none) rm_X2_letCome (sp_X2_letCome g) :=
  wMet_of (wo := o_X2_letCome) (ct := ct_X2_letCome) (sps := sps_X2_letCome g) (own := RX2) (by decide +kernel) rfl oi_X2_letCome w_tyok_vw (walk_X2_letCome g) (calls_X2_letCome l g (c_X2_comeTo l hl g))
theorem nCh_in {N : Nat → Int} {f : Int} (hf : okF N f) : ∀ (n : Nat) (x : Int), (x = -1 ∨ (0 ≤ x ∧ x ≤ 1439)) → nCh N f n x = -1 ∨ (0 ≤ nCh N f n x ∧ nCh N f n x ≤ 1439) := by
  intro n
  induction n with
  | zero => intro x _; exact Or.inl rfl
  | succ n ih =>
    intro x h
    unfold nCh
    by_cases h1 : x = -1
    · rw [if_pos h1]; exact Or.inl rfl
    · rw [if_neg h1]
      by_cases h2 : N 2 ≤ (x + (N (23 + f * 9 + 7).toNat)) % 60
      · rw [if_pos h2]; exact h
      · rw [if_neg h2]; exact ih _ (NL_in hf)
def lbB (N : Nat → Int) (f m : Int) : Int := if (N (23 + f * 9 + 5).toNat) < PR N f m then oNv (nCh N f 1440 (NL N f (m + 1))) else 1540
theorem lbB_in {N : Nat → Int} {f m : Int} (hf : okF N f) : 0 ≤ lbB N f m ∧ lbB N f m ≤ 1540 := by
  unfold lbB
  have h := nCh_in hf 1440 (NL N f (m + 1)) (NL_in hf)
  unfold oNv
  split
  · split <;> omega
  · omega
abbrev tBE : Type := (Nat → Int) × (Nat → Int) × (Nat → Int) × Int
def exU (M E : Nat → Int) (i m c : Int) : (Nat → Int) × (Nat → Int) := (exP (exM M E i m c) (su M (m % 100).toNat (bitS (M (m % 100).toNat) i)) M, exP (exM M E i m c) (su E (m % 100 * 8 + i).toNat c) E)
def lbE (N : Nat → Int) (m lim f : Int) (F M E : Nat → Int) : (Nat → Int) × (Nat → Int) := if m + (N (23 + f * 9 + 4).toNat) ≤ lim then exU M E (N (23 + f * 9 + 1).toNat) (m + (N (23 + f * 9 + 4).toNat)) (F (N (23 + f * 9 + 0).toNat).toNat + PR N f m) else (M, E)
def lbS (N : Nat → Int) (m lim f : Int) (F B M E : Nat → Int) (nb : Int) : tBE := if B f.toNat = m then (su B f.toNat (lbB N f m), (lbE N m lim f F M E).1, (lbE N m lim f F M E).2, mn nb (lbB N f m)) else (B, M, E, mn nb (B f.toNat))
def lbIn (N : Nat → Int) (m lim : Int) (F : Nat → Int) (n : Nat) (f : Int) (B M E : Nat → Int) (nb : Int) : tBE := match n with
  | 0 => (B, M, E, nb)
  | n + 1 => lbIn N m lim F n (f + 1) (lbS N m lim f F B M E nb).1 (lbS N m lim f F B M E nb).2.1 (lbS N m lim f F B M E nb).2.2.1 (lbS N m lim f F B M E nb).2.2.2
theorem PR_in {N : Nat → Int} {f m : Int} (hf : okF N f) : (N (23 + f * 9 + 5).toNat) ≤ PR N f m ∧ 0 ≤ PR N f m ∧ PR N f m ≤ 198 := by
  unfold PR
  have h := hf.2.2.2.1
  split <;> omega
theorem exU_ok {M E : Nat → Int} {i m c : Int} (hM : okM M) (hE : okE E) (hi : 0 ≤ i ∧ i < 8) (hm : 0 ≤ m) (hc : -1 ≤ c ∧ c ≤ 400000) : okM (exU M E i m c).1 ∧ okE (exU M E i m c).2 := by
  unfold exU exP
  have hb := (bit_all (hM (m % 100).toNat (by omega)) hi).2.2
  by_cases h : exM M E i m c
  · rw [if_pos h, if_pos h]
    refine ⟨fun k hk => ?_, su_in hE hc⟩
    have := su_in (F := M) (n := 100) (k := (m % 100).toNat) (v := bitS (M (m % 100).toNat) i) (a := 0) (b := 255) (fun k hk => by have := hM k hk; omega) (by omega) k hk
    show 0 ≤ su M (m % 100).toNat (bitS (M (m % 100).toNat) i) k ∧ su M (m % 100).toNat (bitS (M (m % 100).toNat) i) k < 256
    omega
  · rw [if_neg h, if_neg h]; exact ⟨hM, hE⟩
theorem lbS_ok {N : Nat → Int} {m lim f : Int} {F B M E : Nat → Int} {nb : Int} (hf : okF N f) (hi : okI N f) (h0 : 0 ≤ f ∧ f < 14) (hm : 0 ≤ m) (hF : okFa F 399000) (hB : okB B nb) (hM : okM M) (hE : okE E) : okB (lbS N m lim f F B M E nb).1 (lbS N m lim f F B M E nb).2.2.2 ∧ okM (lbS N m lim f F B M E nb).2.1 ∧ okE (lbS N m lim f F B M E nb).2.2.1 := by
  unfold lbS
  have h1 := lbB_in (m := m) hf
  have h2 := PR_in (m := m) hf
  have h3 := hF (N (23 + f * 9 + 0).toNat).toNat (by have := hi.1; omega)
  have h4 := hf.2.2.1
  have h5 : okM (lbE N m lim f F M E).1 ∧ okE (lbE N m lim f F M E).2 := by
    unfold lbE
    split
    · exact exU_ok hM hE hi.2 (by omega) (by omega)
    · exact ⟨hM, hE⟩
  by_cases h : B f.toNat = m
  · rw [if_pos h]
    exact ⟨⟨su_in hB.1 h1, mn_in hB.2 h1⟩, h5⟩
  · rw [if_neg h]
    exact ⟨⟨hB.1, mn_in hB.2 (hB.1 f.toNat (by omega))⟩, hM, hE⟩
end FARESB
