section WCOPY
/-- System.arraycopy over int arrays at the places q0, q1 of the world -/
abbrev sp_copy (g : gW) (q0 q1 : Nat) : wSp := fun av w K _ => ∃ (a0 a1 n0 n1 : Nat) (f h : Nat → Int32) (sp dp n : Int), av = [.ref a0, .int (ii sp), .ref a1, .int (ii dp), .int (ii n)] ∧ w[q0]? = some (a0, .inl (gI g, n0, .inl f)) ∧ w[q1]? = some (a1, .inl (gI g, n1, .inl h)) ∧
  (0 ≤ sp ∧ 0 ≤ dp ∧ 0 ≤ n ∧ sp + n ≤ n0 ∧ dp + n ≤ n1 ∧ n0 < 100000 ∧ n1 < 100000) ∧ K none (w.set q1 (a1, .inl (gI g, n1, .inl (va_cpy f h sp.toNat dp.toNat n.toNat))))
variable {p : Program} {l : Launch} {e : Env} {R : Room} {s : State} {m : MethodId} {args : Array Value} {below : List Frame} {meth : Method} {c : Code} {Qf : State → Prop} {c0 s0 : Nat} {A : Nat → Prop} {cc : ByteArray} {nL : Nat} {own : String} {QX : wX} {index : Nat}
theorem w_getin {pre mid post : va_W} {q : Nat} {x : Nat × va_E} (h : mid[q]? = some x) : (pre ++ (mid ++ post))[pre.length + q]? = some x := by
  have hl := (List.getElem?_eq_some_iff.mp h).1
  rw [List.getElem?_append_right (by omega), Nat.add_sub_cancel_left, List.getElem?_append_left hl]
  exact h
theorem w_setin {pre mid post : va_W} {q : Nat} {x : Nat × va_E} (h : q < mid.length) : (pre ++ (mid ++ post)).set (pre.length + q) x = pre ++ (mid.set q x ++ post) := by
  rw [List.set_append_right _ _ (by omega), Nat.add_sub_cancel_left, List.set_append_left _ _ h]
theorem wCall_copy {g : gW} (X : wCtx l g.1 vwCl (gTy g) (gCst g) (gStf g) (gSts g) p s m args c A cc nL own) (hw : ∀ w ∈ [Cond.methodLink own index arraycopyName, .native arraycopyName, .static arraycopyName, .initialized "java/lang/System"], w ∈ wGT) (hfr : 1 ≤ R.frames) (hlo : 60 ≤ R.locals) (q0 q1 : Nat) :
    wCall cc (wG p l e R s m args below meth c Qf c0 s0 g.1 vwCl A nL) QX (.invokestatic index) 5 (sp_copy g q0 q1) := by
  obtain ⟨⟨hx, hb, hml, hown, hts⟩, hK, hAm, hA⟩ := X
  intro pc av rest pre mid post lo K KX hd hlen hrest hsp hk hkx H locs ls hl hP hD hS
  obtain ⟨a0, a1, n0, n1, f, h, sp, dp, n, rfl, h0, h1, ⟨k1, k2, k3, k4, k5, k6, k7⟩, hKK⟩ := hsp
  have hwts : ∀ w ∈ [Cond.methodLink own index arraycopyName, .native arraycopyName, .static arraycopyName, .initialized "java/lang/System"], w.before args s = true := fun w hq => hts w (hw w hq)
  have hs9 := w_sum4 rest hrest
  have hnf : nativeFrameWords "java/lang/System" "arraycopy" 5 + 11 ≤ 52 := by decide +kernel
  have hl1 := (List.getElem?_eq_some_iff.mp h1).1
  refine va_copyi hx hb (hml.trans hl.1.symm) hown (hwts _ (by simp)) (hwts _ (by simp)) (hwts _ (by simp)) (hwts _ (by simp)) hK hP hD hS (pre.length + q0) (pre.length + q1) 0 0 (w_getin h0) (w_getin h1) rfl rfl rfl ?_ ?_ ?_ ?_ ?_ (fun i _ => rfl) hfr (show (rest.map fun v => v.category).sum + (nativeFrameWords "java/lang/System" "arraycopy" 5 + 11) ≤ R.locals from by omega) hd (fun H1 locs1 hP1 hD1 hS1 => ?_)
  · rw [ii_lt0 (by omega)]; omega
  · rw [ii_lt0 (by omega)]; omega
  · rw [ii_lt0 (by omega)]; omega
  · rw [ii_cl (by omega) (by omega), ii_cl (by omega) (by omega)]; omega
  · rw [ii_cl (by omega) (by omega), ii_cl (by omega) (by omega)]; omega
  · rw [w_setin hl1, ii_cl (by omega) (by omega), ii_cl (by omega) (by omega), ii_cl (by omega) (by omega)] at hP1 hD1
    exact hk none _ hKK H1 locs1 ls hl hP1 hD1 hS1
abbrev sp_J9_min_7cf53 (_ : gW) : wSp := wsp (fun ((a, b) : Int × Int) => ([.int (ii a), .int (ii b)], [], fun K _ => (-2147483648 ≤ a ∧ a < 2147483648) ∧ (-2147483648 ≤ b ∧ b < 2147483648) ∧ K (some (.int (ii (if b < a then b else a)))) []))
theorem wCall_min {g : gW} (X : wCtx l g.1 vwCl (gTy g) (gCst g) (gStf g) (gSts g) p s m args c A cc nL own) (hw : ∀ w ∈ [Cond.methodLink own index Lib.Math.min.name, .static Lib.Math.min.name, .initialized "java/lang/Math", .code Lib.Math.min.name Lib.Math.min.code 2 (some .int)], w ∈ wGT) (hfr : 1 ≤ R.frames) (hlo : 21 ≤ R.locals) (hf : c0 ≤ R.cells ∧ s0 ≤ R.slots) :
    wCall cc (wG p l e R s m args below meth c Qf c0 s0 g.1 vwCl A nL) QX (.invokestatic index) 2 (sp_J9_min_7cf53 g) := by
  obtain ⟨⟨hx, hb, hml, hown, hts⟩, hK, hAm, hA⟩ := X
  intro pc av rest pre mid post lo K KX hd hlen hrest hsp hk hkx H locs ls hl hP hD hS
  obtain ⟨⟨a, b⟩, rfl, rfl, h1, h2, hKK⟩ := hsp
  have hwts : ∀ w ∈ [Cond.methodLink own index Lib.Math.min.name, .static Lib.Math.min.name, .initialized "java/lang/Math", .code Lib.Math.min.name Lib.Math.min.code 2 (some .int)], w.before args s = true := fun w hq => hts w (hw w hq)
  have hs9 := w_sum4 rest hrest
  refine va_mmin hx hb (hml.trans hl.1.symm) hown (hwts _ (by simp)) (hwts _ (by simp)) (hwts _ (by simp)) (hwts _ (by simp)) hfr (show (rest.map fun v => v.category).sum + 13 ≤ R.locals from by omega) hf.1 hf.2 hd ?_
  have e : (if ii b < ii a then ii b else ii a) = ii (if b < a then b else a) := by
    by_cases h : b < a
    · rw [if_pos h, if_pos ((ii_lt h2 h1).mpr h)]
    · rw [if_neg h, if_neg (fun q => h ((ii_lt h2 h1).mp q))]
  rw [e]
  exact hk _ _ hKK H locs ls hl hP hD hS
end WCOPY
