noncomputable section LHA
/-! the class's calls as the law makes them: nothing is refused -/
variable {g : gW} {N V : Nat → Int} {T : tFT} {W : tWY} {sc os : Int} {K : wK} {KX : wX}
theorem go_count (h : K (some (.int (ii (N 0)))) (wTF g N V T W sc os)) : sp_X3_count g [.ref (gA g 20), .int (ii 0)] (wTF g N V T W sc os) K KX :=
  ⟨(0, N, V, T, W, sc, os), rfl, rfl, ⟨by omega, by omega⟩, fun q => absurd (by omega) q, fun _ => by rw [show tot N sc 0 = N 0 from if_pos rfl]; exact h⟩
theorem go_setting {k : Int} (hk : 0 ≤ k ∧ k < 2) (h : K (some (.int (ii (N (1 + k).toNat)))) (wTF g N V T W sc os)) : sp_X3_setting g [.ref (gA g 20), .int (ii k)] (wTF g N V T W sc os) K KX :=
  ⟨(k, N, V, T, W, sc, os), rfl, rfl, ⟨by omega, by omega⟩, fun q => absurd hk q, fun _ => h⟩
theorem go_ferryOf {f k : Int} (hN : 0 ≤ N 0 ∧ N 0 ≤ 14) (hf : 0 ≤ f ∧ f < N 0) (hk : 0 ≤ k ∧ k ≤ 8) (h : K (some (.int (ii (N (23 + f * 9 + k).toNat)))) (wTF g N V T W sc os)) : sp_X3_ferryOf g [.ref (gA g 20), .int (ii f), .int (ii k)] (wTF g N V T W sc os) K KX :=
  ⟨(f, k, N, V, T, W, sc, os), rfl, rfl, ⟨by omega, by omega⟩, ⟨by omega, by omega⟩, hN, fun q => absurd hf q, fun _ => ⟨fun q => absurd hk q, fun _ => h⟩⟩
theorem go_traveller {t k : Int} (ht : 0 ≤ t ∧ t < 4) (hk : 0 ≤ k ∧ k ≤ 4) (h : K (some (.int (ii (N (3 + t * 5 + k).toNat)))) (wTF g N V T W sc os)) : sp_X3_traveller g [.ref (gA g 20), .int (ii t), .int (ii k)] (wTF g N V T W sc os) K KX :=
  ⟨(t, k, N, V, T, W, sc, os), rfl, rfl, ⟨by omega, by omega⟩, ⟨by omega, by omega⟩, fun q => absurd ht q, fun _ => ⟨fun q => absurd hk q, fun _ => h⟩⟩
theorem go_leaves {f m : Int} (hW : okW N) (hf : 0 ≤ f ∧ f < N 0) (hm : 0 ≤ m ∧ m ≤ 1539) (h : K (some (.int (ii (NL N f m)))) (wTF g N V T W sc os)) : sp_X3_leaves g [.ref (gA g 20), .int (ii f), .int (ii m)] (wTF g N V T W sc os) K KX :=
  have hN := hW.1
  ⟨(f, m, N, V, T, W, sc, os), rfl, rfl, ⟨by omega, by omega⟩, ⟨by omega, by omega⟩, hW, fun q => absurd hf q, fun _ => ⟨fun q => absurd hm q, fun _ => h⟩⟩
theorem go_costs {f m : Int} (hW : okW N) (hf : 0 ≤ f ∧ f < N 0) (hm : 0 ≤ m ∧ m ≤ 1439) (h : K (some (.int (ii (PR N f m)))) (wTF g N V T W sc os)) : sp_X3_costs g [.ref (gA g 20), .int (ii f), .int (ii m)] (wTF g N V T W sc os) K KX :=
  have hN := hW.1
  ⟨(f, m, N, V, T, W, sc, os), rfl, rfl, ⟨by omega, by omega⟩, ⟨by omega, by omega⟩, hW, fun q => absurd hf q, fun _ => ⟨fun q => absurd hm q, fun _ => h⟩⟩
theorem go_soonest {i j m : Int} (hW : okW N) (hw : okWs W) (hi : 0 ≤ i ∧ i < 8) (hj : 0 ≤ j ∧ j < 8) (hm : 0 ≤ m ∧ m ≤ 1439) (h : ∀ W' : tWY, okWs W' → K (some (.int (ii (tA N i m j.toNat)))) (wTF g N V T W' sc os)) : sp_X3_soonest g [.ref (gA g 20), .int (ii i), .int (ii j), .int (ii m)] (wTF g N V T W sc os) K KX :=
  ⟨(i, j, m, N, V, T, W, sc, os), rfl, rfl, ⟨by omega, by omega⟩, ⟨by omega, by omega⟩, ⟨by omega, by omega⟩, hW, fun q => absurd hi q, fun _ => ⟨fun q => absurd hj q, fun _ => ⟨fun q => absurd hm q, fun _ => by
    rw [fArr_tA hW hm (show j.toNat < 8 by omega)]
    exact h (fArr N W.1 i m, W.2) hw⟩⟩⟩
theorem go_cheapest {i j m l : Int} (hW : okW N) (hw : okWs W) (hi : 0 ≤ i ∧ i < 8) (hj : 0 ≤ j ∧ j < 8) (hm : 0 ≤ m ∧ m ≤ 1439) (hl : m ≤ l ∧ l ≤ 1539) (h : ∀ W' : tWY, okWs W' → K (some (.int (ii (chp N i m j l)))) (wTF g N V T W' sc os)) : sp_X3_cheapest g [.ref (gA g 20), .int (ii i), .int (ii j), .int (ii m), .int (ii l)] (wTF g N V T W sc os) K KX :=
  ⟨(i, j, m, l, N, V, T, W, sc, os), rfl, rfl, ⟨by omega, by omega⟩, ⟨by omega, by omega⟩, ⟨by omega, by omega⟩, ⟨by omega, by omega⟩, hW, hw, fun q => absurd hi q, fun _ => ⟨fun q => absurd hj q, fun _ => ⟨fun q => absurd hm q, fun _ => ⟨fun q => absurd hl q, fun _ => by
    rw [wFar_chp hW hi hm hj hl hw]
    exact h _ (wFar_ok hW (by omega) (by omega) hw).1⟩⟩⟩⟩
theorem go_lastStart {i j l : Int} (hW : okW N) (hw : okWs W) (hi : 0 ≤ i ∧ i < 8) (hj : 0 ≤ j ∧ j < 8) (hij : i ≠ j) (hl : 0 ≤ l ∧ l ≤ 1539) (h : ∀ (s : Int) (W' : tWY), okWs W' → (-1 ≤ s ∧ s ≤ 1439) → (∀ x : Int, 0 ≤ x → x ≤ 1439 → ((tA N i x j.toNat ≠ -1 ∧ tA N i x j.toNat ≤ l) ↔ x ≤ s)) → K (some (.int (ii s))) (wTF g N V T W' sc os)) : sp_X3_lastStart g [.ref (gA g 20), .int (ii i), .int (ii j), .int (ii l)] (wTF g N V T W sc os) K KX :=
  ⟨(i, j, l, N, V, T, W, sc, os), rfl, rfl, ⟨by omega, by omega⟩, ⟨by omega, by omega⟩, ⟨by omega, by omega⟩, hW, fun q => absurd hi q, fun _ => ⟨fun q => absurd hj q, fun _ => ⟨fun q => absurd hij q, fun _ => ⟨fun q => absurd hl q, fun _ =>
    h _ (W.1, fStt N W.2.1 j l, W.2.2) hw (fStt_top hW hi hij hj.1 hl) (fun x h0 h1 => fStt_fArr hW hi hj hl ⟨h0, h1⟩)⟩⟩⟩⟩
theorem go_reach {t : Int} (hI : IN N) (hw : okWs W) (ht : 0 ≤ t ∧ t < 4) (h : ∀ W' : tWY, okWs W' → K (some (.int (rmF N (N (3 + t * 5 + 0).toNat) (N (3 + t * 5 + 1).toNat) (N (3 + t * 5 + 2).toNat) 8 0 (ii 1 <<< (ii (N (3 + t * 5 + 0).toNat) &&& 31))))) (wTF g N V T W' sc os)) : sp_X3_reach g [.ref (gA g 20), .int (ii t)] (wTF g N V T W sc os) K KX :=
  have k := hI.2 t ht.1 ht.2
  ⟨(t, N, V, T, W, sc, os), rfl, rfl, ⟨by omega, by omega⟩, okT1_Tr hI, hI.1, hw, fun q => absurd ht q, fun _ => by
    unfold okT1 at k
    rw [iwF_rm hI.1 k.1 k.2.1 hw 8 0 (ii 0) rfl, ← rm_start hI.1 k.1 k.2.1 k.2.2.1]
    exact h _ (wFar_ok hI.1 (by omega) (by omega) hw).1⟩
theorem go_joined (hW : okW N) (hw : okWs W) (h : ∀ W' : tWY, okWs W' → K (some (.double (shr (jL N 64 0 0)))) (wTF g N V T W' sc os)) : sp_X3_joined g [.ref (gA g 20)] (wTF g N V T W sc os) K KX :=
  ⟨(N, V, T, W, sc, os), rfl, rfl, hW, by
    rw [jL_out hW 8 0 W.1 0 (by omega) (by omega)]
    exact h ((jpO N 8 0 W.1 0).1, W.2) hw⟩
theorem go_drop {f : Int} (ho : okV sc os) (hN : 0 ≤ N 0 ∧ N 0 ≤ 14) (hf : 0 ≤ f ∧ f < N 0) (h : ∀ (V' : Nat → Int) (sc' os' : Int), okV sc' os' → K (some (.int (ii (N 0 - 1)))) (wTF g (forgetN N f) V' T W sc' os')) : sp_X3_drop g [.ref (gA g 20), .int (ii f)] (wTF g N V T W sc os) K KX :=
  ⟨(f, N, V, T, W, sc, os), rfl, rfl, ⟨by omega, by omega⟩, ho, hN, fun q => absurd hf q, fun _ => by
    rw [show forgetN N f 0 = N 0 - 1 from su_s]
    exact h _ _ _ (okV_s ho)⟩
theorem go_kind {f v : Int} (ho : okV sc os) (hN : 0 ≤ N 0 ∧ N 0 ≤ 14) (hf : 0 ≤ f ∧ f < N 0) (hv : 0 ≤ v ∧ v ≤ 2) (h : ∀ (V' : Nat → Int) (sc' os' : Int), okV sc' os' → K (some (.int (ii (N (23 + f * 9 + 6).toNat)))) (wTF g (su N (23 + f * 9 + 6).toNat v) V' T W sc' os')) : sp_X3_kind g [.ref (gA g 20), .int (ii f), .int (ii v)] (wTF g N V T W sc os) K KX :=
  ⟨(f, v, N, V, T, W, sc, os), rfl, rfl, ⟨by omega, by omega⟩, ⟨by omega, by omega⟩, ho, hN, fun q => absurd hf q, fun _ => ⟨fun q => absurd hv q, fun _ => h _ _ _ (okV_s ho)⟩⟩
theorem go_clock {f v : Int} (ho : okV sc os) (hN : 0 ≤ N 0 ∧ N 0 ≤ 14) (hf : 0 ≤ f ∧ f < N 0) (hv : 0 ≤ v ∧ v ≤ 59) (h : ∀ (V' : Nat → Int) (sc' os' : Int), okV sc' os' → K (some (.int (ii (N (23 + f * 9 + 7).toNat)))) (wTF g (su N (23 + f * 9 + 7).toNat v) V' T W sc' os')) : sp_X3_clock g [.ref (gA g 20), .int (ii f), .int (ii v)] (wTF g N V T W sc os) K KX :=
  ⟨(f, v, N, V, T, W, sc, os), rfl, rfl, ⟨by omega, by omega⟩, ⟨by omega, by omega⟩, ho, hN, fun q => absurd hf q, fun _ => ⟨fun q => absurd hv q, fun _ => h _ _ _ (okV_s ho)⟩⟩
theorem go_set {k v : Int} (ho : okV sc os) (hk : 0 ≤ k ∧ k < 2) (hv : 0 ≤ v ∧ v ≤ kMOS k.toNat) (h : ∀ (V' : Nat → Int) (sc' os' : Int), okV sc' os' → K (some (.int (ii (N (1 + k).toNat)))) (wTF g (su N (1 + k).toNat v) V' T W sc' os')) : sp_X3_set g [.ref (gA g 20), .int (ii k), .int (ii v)] (wTF g N V T W sc os) K KX :=
  have e := kMOS_in k.toNat
  ⟨(k, v, N, V, T, W, sc, os), rfl, rfl, ⟨by omega, by omega⟩, ⟨by omega, by omega⟩, ho, fun q => absurd hk q, fun _ => ⟨fun q => absurd hv q, fun _ => h _ _ _ (okV_s ho)⟩⟩
theorem go_place {t i m p : Int} (ho : okV sc os) (ht : 0 ≤ t ∧ t < 4) (hi : 0 ≤ i ∧ i < 8) (hm : 0 ≤ m ∧ m ≤ 1439) (hp : 0 ≤ p ∧ p ≤ 999) (h : ∀ (V' : Nat → Int) (sc' os' : Int), okV sc' os' → K (some (.int (ii (N (3 + t * 5 + 2).toNat)))) (wTF g (su (su (su N (3 + t * 5 + 0).toNat i) (3 + t * 5 + 1).toNat m) (3 + t * 5 + 2).toNat p) V' T W sc' os')) : sp_X3_place g [.ref (gA g 20), .int (ii t), .int (ii i), .int (ii m), .int (ii p)] (wTF g N V T W sc os) K KX :=
  ⟨(t, i, m, p, N, V, T, W, sc, os), rfl, rfl, ⟨by omega, by omega⟩, ⟨by omega, by omega⟩, ⟨by omega, by omega⟩, ⟨by omega, by omega⟩, ho, fun q => absurd ht q, fun _ => ⟨fun q => absurd hi q, fun _ => ⟨fun q => absurd hm q, fun _ => ⟨fun q => absurd hp q, fun _ => h _ _ _ (okV_s ho)⟩⟩⟩⟩
theorem go_ferry {a b c d e f : Int} (ho : okV sc os) (hN : 0 ≤ N 0 ∧ N 0 < 14) (ha : 0 ≤ a ∧ a < 8) (hb : 0 ≤ b ∧ b < 8) (hab : a ≠ b) (hc : 0 ≤ c ∧ c ≤ 199) (hd : 1 ≤ d ∧ d ≤ 199) (he : 1 ≤ e ∧ e ≤ 99) (hf : 0 ≤ f ∧ f ≤ 99) (h : ∀ (V' : Nat → Int) (sc' os' : Int), okV sc' os' → K (some (.int (ii (N 0)))) (wTF g (tellN N a b c d e f 0) V' T W sc' os')) : sp_X3_ferry g [.ref (gA g 20), .int (ii a), .int (ii b), .int (ii c), .int (ii d), .int (ii e), .int (ii f)] (wTF g N V T W sc os) K KX :=
  ⟨(a, b, c, d, e, f, N, V, T, W, sc, os), rfl, rfl, ⟨by omega, by omega⟩, ⟨by omega, by omega⟩, ⟨by omega, by omega⟩, ⟨by omega, by omega⟩, ⟨by omega, by omega⟩, ⟨by omega, by omega⟩, ho, ⟨hN.1, by omega⟩, fun q => absurd ha q, fun _ => ⟨fun q => absurd hb q, fun _ => ⟨fun q => absurd hab q, fun _ => ⟨fun q => absurd hc q, fun _ => ⟨fun q => absurd hd q, fun _ => ⟨fun q => absurd he q, fun _ => ⟨fun q => absurd hf q, fun _ => ⟨fun q => absurd hN.2 q, fun _ => by
    rw [show tellN N a b c d e f 0 0 - 1 = N 0 by rw [tellN_0]; omega]
    exact h _ _ _ (okV_s ho)⟩⟩⟩⟩⟩⟩⟩⟩
end LHA
noncomputable section LHB
/-! the law's numbers out of its script -/
def lo (v : Int32) (n : Int) : Int := (v &&& ii 2147483647).toInt % n
theorem lw_in (v : Int32) : 0 ≤ (v &&& ii 2147483647).toInt ∧ (v &&& ii 2147483647).toInt < 2147483648 := by
  have h1 : (v.toBitVec &&& 2147483647#32).toNat ≤ 2147483647 := by
    rw [BitVec.toNat_and]
    exact Nat.and_le_right
  have h2 : (v &&& ii 2147483647).toInt = (v.toBitVec &&& 2147483647#32).toInt := rfl
  rw [h2, BitVec.toInt_eq_toNat_of_lt (by omega)]
  omega
theorem lo_in (v : Int32) {n : Int} (hn : 1 ≤ n) : 0 ≤ lo v n ∧ lo v n < n := ⟨Int.emod_nonneg _ (by omega), Int.emod_lt_of_pos _ (by omega)⟩
abbrev sp_L_low (_ : gW) : wSp := wsp (fun ((v, n) : Int32 × Int) => ([.int v, .int (ii n)], [], fun K _ => (1 ≤ n ∧ n ≤ 100000) ∧ K (some (.int (ii (lo v n)))) []))
def sps_L_low (g : gW) : Nat → wSp := fun k => match k with
  | _ => fun _ _ _ _ => False
abbrev qc_L_low : List (Nat × List wAn) := w_cut q_L_low []
theorem cqc_L_low : qc_L_low.all (fun q => ck_L_low q.2 q.1) = true := w_cut_all cq_L_low
theorem j_L_low_0 {cst : List wC} {stf : wF} {cI cC cL : Nat} {sp : Nat → wSp} {ret : Option FieldType} {Q : wK} {QX : wX} {stop : wJp} {n : Nat} {lo : wLo} {st : List Value} {w : va_W} : wJ cst stf cI cC cL sp ret Q QX qc_L_low stop (n + 1) 0 lo st w = wB cst stf cI cC cL sp ret Q QX (wJ cst stf cI cC cL sp ret Q QX qc_L_low stop n) b_L_low_0 0 lo st w := rfl
theorem walk_L_low (g : gW) : gWalk g (sps_L_low g) (some .int) 2 ck_L_low (sp_L_low g) := by
  rintro av w K KX ⟨⟨v, n⟩, rfl, rfl, h1, hK⟩
  refine ⟨⟨by simp [lg_sl, Value.category], rfl⟩, fun G hG => hG.go cqc_L_low (stop := G) (fun _ _ _ _ h => h) 60 _ _ _ _ ?_⟩
  have hv := lw_in v
  have h2 := ii_rem (a := (v &&& ii 2147483647).toInt) (b := n) hv.1 hv.2 (by omega) (by omega)
  rw [ii_of] at h2
  unfold lo at hK
  rw [← h2] at hK
  simp (disch := omega) only [j_L_low_0, b_L_low_0, wr_iconst, wr_bipush, wr_sipush, wr_lconst0, wr_lconst1, wr_ldc, wr_ldc2_0, wr_ldc2_1, wr_dconst0, wr_dconst1, wr_iload_n0, wr_iload_n1, wr_iload_n2, wr_iload_n3, wr_iload, wr_lload_n0, wr_lload_n1, wr_lload_n2, wr_lload_n3, wr_lload, wr_dload_n0, wr_dload_n1, wr_dload_n2, wr_dload_n3, wr_dload, wr_aload_n0, wr_aload_n1, wr_aload_n2, wr_aload_n3, wr_aload, wr_istore_n0, wr_istore_n1, wr_istore_n2, wr_istore_n3, wr_istore, wr_astore_n0, wr_astore_n1, wr_astore_n2, wr_astore_n3, wr_astore, wr_lstore_n0, wr_lstore_n1, wr_lstore_n2, wr_lstore_n3, wr_lstore, wr_dstore_n0, wr_dstore_n1, wr_dstore_n2, wr_dstore_n3, wr_dstore, wr_iinc, wr_iadd, wr_isub, wr_imul, wr_iand, wr_ior, wr_irem, wr_idiv, wr_ishr, wr_ixor, wr_ishl, wr_i2l, wr_i2c, wr_i2d, wr_d2l, wr_ladd, wr_lsub, wr_lmul, wr_lcmp, wr_ddiv, wr_dmul, wr_dsub, wr_dcmp, wr_dup, wr_pop, wr_dup2, wr_getfield, wr_putfield, wr_getstatic, wr_iaload_0, wr_iaload_1, wr_iastore, wr_arraylength_0, wr_arraylength_1, wr_goto, wr_ifCond_eq, wr_ifCond_ne, wr_ifCond_lt, wr_ifCond_ge, wr_ifCond_gt, wr_ifCond_le, wr_if_icmp_eq, wr_if_icmp_ne, wr_if_icmp_lt, wr_if_icmp_ge, wr_if_icmp_gt, wr_if_icmp_le, wr_invokevirtual, wr_invokestatic, wr_ireturn, wr_lreturn, wr_dreturn, wr_return_, wr_nil, wr_cons, wr_pI, wr_pL, wr_pD, wr_pR, wr_pVI, wr_pVR, wr_gI0, wr_gIs, wr_gL0, wr_gLs, wr_gD0, wr_gDs, wr_gR0, wr_gRs, wr_s10, wr_s11I, wr_s11R, wr_s11N, wr_s11L, wr_s1s, wr_s20, wr_s21I, wr_s21R, wr_s21N, wr_s2s, wr_o0, wr_os, wr_a0, wr_as, wr_f0, wr_fs, wr_c0, wr_cs, wr_mid0, wr_mid1, wr_mids, wr_pre0, wr_pre1, wr_pres, wr_post0, wr_post1, wr_posts, wr_riI, wr_riB, wr_b0, wr_b1, wr_inI, wr_inR, wr_inL, wr_inD, wr_inN, wr_jc_eq, wr_jc_ne, wr_jc_lt, wr_jc_ge, wr_jc_gt, wr_jc_le, wr_j2_eq, wr_j2_ne, wr_j2_lt, wr_j2_ge, wr_j2_gt, wr_j2_le, wr_rl0, wr_rlI, wr_rlR, wr_rlL, wr_rlD, wr_ts, wr_tn, wr_ca0, wr_ca1, wr_ca2, wr_ca3, wr_ca4, wr_ca5, wr_ca6, wr_ca7, wr_ca8, List.cons_append, List.nil_append, List.append_nil, List.set_cons_zero, List.set_cons_succ, List.drop_succ_cons, List.drop_zero, List.take_succ_cons, List.take_zero, List.length_cons, List.length_nil, Nat.reduceAdd, Nat.reduceDiv, Nat.reduceMod, Nat.reduceLeDiff, Nat.zero_add, Nat.le_refl, Nat.zero_le, List.replicate_succ, List.replicate_zero, Nat.reduceSub, true_and, and_true, and_self, eq_self, gCst, gStf, w_z, Nat.reduceLT, ii_in, ii_cl, ii_add, ii_sub, ii_mul, ii_rem, ii_eq, ii_lt, ii_le, ii_eq0, ii_lt0, ii_gt0, ii_le0, ii_ge0, upd_ii, cpy_ii, Int.reduceLE, Int.reduceLT, Int.reduceEq, Int.reduceAdd, Int.reduceSub, Int.reduceMul, Int.reduceNeg, not_true_eq_false, not_false_eq_true, false_implies, true_implies, forall_const, implies_true, Int.reduceToNat]
  exact ⟨by omega, hK⟩
set_option maxRecDepth 100000 in
theorem calls_L_low (l : Launch) (g : gW)  (p : Program) (e : Env) (s : State) (m : MethodId) (args : Array Value) (below : List Frame) (meth : Method) (c : Code) (A : Nat → Prop) (Qf : State → Prop) (X : wCtx l g.1 vwCl (gTy g) (gCst g) (gStf g) (gSts g) p s m args c A cL_low 2 RL) : ∀ (k : Nat) (q : Instr × Nat), ct_L_low[k]? = some q → wCall cL_low (wG p l e rm_L_low s m args below meth c Qf 0 0 g.1 vwCl A 2) (fun _ _ => False) q.1 q.2 (sps_L_low g k) := by
  intro k q hk
  match k, hk with
  | k + 0, hk => exact absurd hk (by simp [ct_L_low])
theorem c_L_low (l : Launch) (hl : l.stackTraces = false) (g : gW) : gM l g yL_low (wWs yL_low cL_low 2 (some .int)) rm_L_low (sp_L_low g) :=
  wMet_of (wo := o_L_low) (ct := ct_L_low) (sps := sps_L_low g) (own := RL) (by decide +kernel) rfl oi_L_low w_tyok_vw (walk_L_low g) (calls_L_low l g )
abbrev sp_L_cell (g : gW) : wSp := wsp (fun (k : Int) => ([.ref (gA g 7), .int (ii k)], [], fun K _ => (0 ≤ k ∧ k ≤ 1000) ∧ g.2.2.1 ≤ 260 ∧ ∀ x : Int32, K (some (.int x)) []))
def sps_L_cell (g : gW) : Nat → wSp := fun k => match k with
  | _ => fun _ _ _ _ => False
abbrev qc_L_cell : List (Nat × List wAn) := w_cut q_L_cell []
theorem cqc_L_cell : qc_L_cell.all (fun q => ck_L_cell q.2 q.1) = true := w_cut_all cq_L_cell
theorem j_L_cell_0 {cst : List wC} {stf : wF} {cI cC cL : Nat} {sp : Nat → wSp} {ret : Option FieldType} {Q : wK} {QX : wX} {stop : wJp} {n : Nat} {lo : wLo} {st : List Value} {w : va_W} : wJ cst stf cI cC cL sp ret Q QX qc_L_cell stop (n + 1) 0 lo st w = wB cst stf cI cC cL sp ret Q QX (wJ cst stf cI cC cL sp ret Q QX qc_L_cell stop n) b_L_cell_0 0 lo st w := rfl
theorem j_L_cell_12 {cst : List wC} {stf : wF} {cI cC cL : Nat} {sp : Nat → wSp} {ret : Option FieldType} {Q : wK} {QX : wX} {stop : wJp} {n : Nat} {lo : wLo} {st : List Value} {w : va_W} : wJ cst stf cI cC cL sp ret Q QX qc_L_cell stop (n + 1) 12 lo st w = wB cst stf cI cC cL sp ret Q QX (wJ cst stf cI cC cL sp ret Q QX qc_L_cell stop n) b_L_cell_12 12 lo st w := rfl
theorem j_L_cell_20 {cst : List wC} {stf : wF} {cI cC cL : Nat} {sp : Nat → wSp} {ret : Option FieldType} {Q : wK} {QX : wX} {stop : wJp} {n : Nat} {lo : wLo} {st : List Value} {w : va_W} : wJ cst stf cI cC cL sp ret Q QX qc_L_cell stop (n + 1) 20 lo st w = wB cst stf cI cC cL sp ret Q QX (wJ cst stf cI cC cL sp ret Q QX qc_L_cell stop n) b_L_cell_20 20 lo st w := rfl
theorem walk_L_cell (g : gW) : gWalk g (sps_L_cell g) (some .int) 2 ck_L_cell (sp_L_cell g) := by
  rintro av w K KX ⟨k, rfl, rfl, h1, h2, hK⟩
  refine ⟨⟨by simp [lg_sl, Value.category], rfl⟩, fun G hG => hG.go cqc_L_cell (stop := G) (fun _ _ _ _ h => h) 60 _ _ _ _ ?_⟩
  simp (disch := omega) only [j_L_cell_0, j_L_cell_12, j_L_cell_20, b_L_cell_0, b_L_cell_12, b_L_cell_20, wr_iconst, wr_bipush, wr_sipush, wr_lconst0, wr_lconst1, wr_ldc, wr_ldc2_0, wr_ldc2_1, wr_dconst0, wr_dconst1, wr_iload_n0, wr_iload_n1, wr_iload_n2, wr_iload_n3, wr_iload, wr_lload_n0, wr_lload_n1, wr_lload_n2, wr_lload_n3, wr_lload, wr_dload_n0, wr_dload_n1, wr_dload_n2, wr_dload_n3, wr_dload, wr_aload_n0, wr_aload_n1, wr_aload_n2, wr_aload_n3, wr_aload, wr_istore_n0, wr_istore_n1, wr_istore_n2, wr_istore_n3, wr_istore, wr_astore_n0, wr_astore_n1, wr_astore_n2, wr_astore_n3, wr_astore, wr_lstore_n0, wr_lstore_n1, wr_lstore_n2, wr_lstore_n3, wr_lstore, wr_dstore_n0, wr_dstore_n1, wr_dstore_n2, wr_dstore_n3, wr_dstore, wr_iinc, wr_iadd, wr_isub, wr_imul, wr_iand, wr_ior, wr_irem, wr_idiv, wr_ishr, wr_ixor, wr_ishl, wr_i2l, wr_i2c, wr_i2d, wr_d2l, wr_ladd, wr_lsub, wr_lmul, wr_lcmp, wr_ddiv, wr_dmul, wr_dsub, wr_dcmp, wr_dup, wr_pop, wr_dup2, wr_getfield, wr_putfield, wr_getstatic, wr_iaload_0, wr_iaload_1, wr_iastore, wr_arraylength_0, wr_arraylength_1, wr_goto, wr_ifCond_eq, wr_ifCond_ne, wr_ifCond_lt, wr_ifCond_ge, wr_ifCond_gt, wr_ifCond_le, wr_if_icmp_eq, wr_if_icmp_ne, wr_if_icmp_lt, wr_if_icmp_ge, wr_if_icmp_gt, wr_if_icmp_le, wr_invokevirtual, wr_invokestatic, wr_ireturn, wr_lreturn, wr_dreturn, wr_return_, wr_nil, wr_cons, wr_pI, wr_pL, wr_pD, wr_pR, wr_pVI, wr_pVR, wr_gI0, wr_gIs, wr_gL0, wr_gLs, wr_gD0, wr_gDs, wr_gR0, wr_gRs, wr_s10, wr_s11I, wr_s11R, wr_s11N, wr_s11L, wr_s1s, wr_s20, wr_s21I, wr_s21R, wr_s21N, wr_s2s, wr_o0, wr_os, wr_a0, wr_as, wr_f0, wr_fs, wr_c0, wr_cs, wr_mid0, wr_mid1, wr_mids, wr_pre0, wr_pre1, wr_pres, wr_post0, wr_post1, wr_posts, wr_riI, wr_riB, wr_b0, wr_b1, wr_inI, wr_inR, wr_inL, wr_inD, wr_inN, wr_jc_eq, wr_jc_ne, wr_jc_lt, wr_jc_ge, wr_jc_gt, wr_jc_le, wr_j2_eq, wr_j2_ne, wr_j2_lt, wr_j2_ge, wr_j2_gt, wr_j2_le, wr_rl0, wr_rlI, wr_rlR, wr_rlL, wr_rlD, wr_ts, wr_tn, wr_ca0, wr_ca1, wr_ca2, wr_ca3, wr_ca4, wr_ca5, wr_ca6, wr_ca7, wr_ca8, List.cons_append, List.nil_append, List.append_nil, List.set_cons_zero, List.set_cons_succ, List.drop_succ_cons, List.drop_zero, List.take_succ_cons, List.take_zero, List.length_cons, List.length_nil, Nat.reduceAdd, Nat.reduceDiv, Nat.reduceMod, Nat.reduceLeDiff, Nat.zero_add, Nat.le_refl, Nat.zero_le, List.replicate_succ, List.replicate_zero, Nat.reduceSub, true_and, and_true, and_self, eq_self, gCst, gStf, w_z, Nat.reduceLT, ii_in, ii_cl, ii_add, ii_sub, ii_mul, ii_rem, ii_eq, ii_lt, ii_le, ii_eq0, ii_lt0, ii_gt0, ii_le0, ii_ge0, upd_ii, cpy_ii, Int.reduceLE, Int.reduceLT, Int.reduceEq, Int.reduceAdd, Int.reduceSub, Int.reduceMul, Int.reduceNeg, not_true_eq_false, not_false_eq_true, false_implies, true_implies, forall_const, implies_true, Int.reduceToNat]
  exact ⟨fun _ => hK _, fun h => ⟨ii_in (by omega) (by omega) (by omega), hK _⟩⟩
set_option maxRecDepth 100000 in
theorem calls_L_cell (l : Launch) (g : gW)  (p : Program) (e : Env) (s : State) (m : MethodId) (args : Array Value) (below : List Frame) (meth : Method) (c : Code) (A : Nat → Prop) (Qf : State → Prop) (X : wCtx l g.1 vwCl (gTy g) (gCst g) (gStf g) (gSts g) p s m args c A cL_cell 2 RL) : ∀ (k : Nat) (q : Instr × Nat), ct_L_cell[k]? = some q → wCall cL_cell (wG p l e rm_L_cell s m args below meth c Qf 0 0 g.1 vwCl A 2) (fun _ _ => False) q.1 q.2 (sps_L_cell g k) := by
  intro k q hk
  match k, hk with
  | k + 0, hk => exact absurd hk (by simp [ct_L_cell])
theorem c_L_cell (l : Launch) (hl : l.stackTraces = false) (g : gW) : gM l g yL_cell (wWs yL_cell cL_cell 2 (some .int)) rm_L_cell (sp_L_cell g) :=
  wMet_of (wo := o_L_cell) (ct := ct_L_cell) (sps := sps_L_cell g) (own := RL) (by decide +kernel) rfl oi_L_cell w_tyok_vw (walk_L_cell g) (calls_L_cell l g )
theorem go_low {g : gW} {K : wK} {KX : wX} {v : Int32} {n : Int} (hn : 1 ≤ n ∧ n ≤ 100000) (h : K (some (.int (ii (lo v n)))) []) : sp_L_low g [.int v, .int (ii n)] [] K KX := ⟨(v, n), rfl, rfl, hn, h⟩
end LHB
