section LWM
variable {p : Program} {l : Launch} {s : State} {m : MethodId} {c : Code}
/-- a static table of ints or chars, as the start has it -/
theorem st_arr {args : Array Value} {C n d : String} {ty : FieldType} {N : Nat} {f : Nat → Int32} {A : Nat → Prop} (hN : N < 2 ^ 31) (harr : (Cond.arrayOf (.static C n d) ty).before args s = true) (hlen : (Cond.eq (.length (.static C n d)) (.int (Int32.ofNat N))).before args s = true) (hel : ∀ j : Nat, j < N → (Cond.eq (.elem (.static C n d) (.int (Int32.ofNat j))) (.int (f j))).before args s = true)
    (hl : (Cond.laysStatic C n d).before args s = true) (hini : (Cond.initialized C).before args s = true) (hA : ∀ a : Nat, a < s.heap.size → ¬ A a) : ∃ t : Nat, va_T ty t N (fun j => .int (f j)) A s s.heap ∧ va_Z C n d (.ref t) A s s.heap := by
  obtain ⟨t, ht, hT⟩ := va_Tof (f := fun j => .int (f j)) hN harr (va_eqt hlen) (fun j hj => va_eqt (hel j hj)) hA
  exact ⟨t, hT, va_Zof hl hini ht hA⟩
theorem arr_K {args : Array Value} {ty : FieldType} (h : (Cond.arrayClass ty).before args s = true) : ∃ cA : ClassId, s.vm.findClass ("[" ++ ty.toString) = some cA ∧ ArrOfT s cA ty := by
  obtain ⟨cA, k, comp, h1, h2, h3⟩ := Cond.arrayClass_spec h
  exact ⟨cA, h1, fun n z => ⟨fun k h => (by cases h), k, h2, comp, h3⟩⟩
theorem str_K {args : Array Value} {own tx : String} {k : Nat} (h : (Cond.stringRef own k tx).before args s = true) : ∃ a : Nat, vk_R own k tx a s := by
  have h0 : (Cond.stringRef own k tx).before #[] s = true := by first | exact h | (simp only [Cond.before, Cond.holds, Cond.value] at h ⊢; exact h)
  have hcur : ∃ cur, s.vm.findClass own = some cur := by
    simp only [Cond.before, Cond.holds, Cond.value] at h
    cases hc : s.vm.findClass own with
    | none => simp [hc] at h
    | some cur => exact ⟨cur, rfl⟩
  obtain ⟨cur, hcur⟩ := hcur
  obtain ⟨k1, cf, i, a, -, -, -, -, -, h6⟩ := Cond.stringRef_spec hcur h0
  exact ⟨a, h0, h6⟩
theorem lCtx {b L : Nat} {xs : Nat → Int32} (hx : p.tables.exec = Jvm.exec) (hb : c.code = code) (hml : c.maxLocals = 9) (hown : s.vm.findClass RL = some m.cls) (hts : ∀ w ∈ lw_tbl, w.before #[Value.ref b] s = true) (hX : va_X b L xs s s.heap) (hbl : b < s.heap.size) (hgv : (Jvm.Cond.and given_1 narrow_1).before #[Value.ref b] s = true) :
    ∃ g : gW, wCtx l g.1 vwCl (gTy g) (gCst g) (gStf g) (gSts g) p s m #[Value.ref b] c (fun q => s.heap.size ≤ q) code 9 RL ∧ gA g 7 = b ∧ g.2.2.1 = L := by
  have hs := flat_of_before _ hgv
  have hA : ∀ a : Nat, a < s.heap.size → ¬ (fun q : Nat => s.heap.size ≤ q) a := fun a h => Nat.not_le.mpr h
  obtain ⟨c0, i0, k0⟩ := u_known (C := RX0) (T := TX0) (N := 7) (n := 7) hts (by decide +kernel) (hts (.instantiable RX0 7) (by decide +kernel))
  obtain ⟨c1, i1, k1⟩ := u_known (C := RX1) (T := TX1) (N := 1) (n := 1) hts (by decide +kernel) (hts (.instantiable RX1 1) (by decide +kernel))
  obtain ⟨c2, i2, k2⟩ := u_known (C := RX2) (T := TX2) (N := 7) (n := 7) hts (by decide +kernel) (hts (.instantiable RX2 7) (by decide +kernel))
  obtain ⟨c3, i3, k3⟩ := u_known (C := RX3) (T := TX3) (N := 6) (n := 6) hts (by decide +kernel) (hts (.instantiable RX3 6) (by decide +kernel))
  obtain ⟨cI, fI, aI⟩ := arr_K (hts (.arrayClass .int) (by decide +kernel))
  obtain ⟨a0, t0, z0⟩ := st_arr (C := RX3) (n := "LEAST") (d := "[I") (ty := .int) (N := 8) (f := fun j => ii (kLEAST j)) (by decide) (hs _ (by decide +kernel)) (hs _ (by decide +kernel)) (fun j hj => hs _ ((by decide +kernel : ∀ j : Nat, j < 8 → Cond.eq (.elem (.static RX3 "LEAST" "[I") (.int (Int32.ofNat j))) (.int (ii (kLEAST j))) ∈ flatC (Jvm.Cond.and given_1 narrow_1)) j hj)) (hts _ (by decide +kernel)) (hts _ (by decide +kernel)) hA
  obtain ⟨a1, t1, z1⟩ := st_arr (C := RX3) (n := "MOST") (d := "[I") (ty := .int) (N := 8) (f := fun j => ii (kMOST j)) (by decide) (hs _ (by decide +kernel)) (hs _ (by decide +kernel)) (fun j hj => hs _ ((by decide +kernel : ∀ j : Nat, j < 8 → Cond.eq (.elem (.static RX3 "MOST" "[I") (.int (Int32.ofNat j))) (.int (ii (kMOST j))) ∈ flatC (Jvm.Cond.and given_1 narrow_1)) j hj)) (hts _ (by decide +kernel)) (hts _ (by decide +kernel)) hA
  obtain ⟨a2, t2, z2⟩ := st_arr (C := RX3) (n := "MOST_OF_SETTING") (d := "[I") (ty := .int) (N := 2) (f := fun j => ii (kMOS j)) (by decide) (hs _ (by decide +kernel)) (hs _ (by decide +kernel)) (fun j hj => hs _ ((by decide +kernel : ∀ j : Nat, j < 2 → Cond.eq (.elem (.static RX3 "MOST_OF_SETTING" "[I") (.int (Int32.ofNat j))) (.int (ii (kMOS j))) ∈ flatC (Jvm.Cond.and given_1 narrow_1)) j hj)) (hts _ (by decide +kernel)) (hts _ (by decide +kernel)) hA
  obtain ⟨r0, s0⟩ := str_K (hts (.stringRef RX3 203 "there is no such one") (by decide +kernel))
  obtain ⟨r1, s1⟩ := str_K (hts (.stringRef RX3 210 "an argument is out of range") (by decide +kernel))
  obtain ⟨r2, s2⟩ := str_K (hts (.stringRef RX3 215 "that cannot be done now") (by decide +kernel))
  refine ⟨((fun k => match k with | 0 => c0 | 1 => c1 | 2 => c2 | _ => c3, fun k => match k with | 0 => i0 | 1 => i1 | 2 => i2 | _ => i3), (fun k => match k with | 0 => cI | 3 => a0 | 4 => a1 | 5 => a2 | 7 => b | 8 => r0 | 9 => r1 | _ => r2), L, xs), ⟨⟨hx, hb, hml, hown, fun w h => hts w (wGT_in h)⟩, ⟨?_, ?_⟩, ⟨?_, ?_, ?_, ?_, ?_, ?_, ?_⟩, fun _ h => h⟩, rfl, rfl⟩
  · intro k q hq
    match k, hq with
    | 0, hq => cases hq; exact k0
    | 1, hq => cases hq; exact k1
    | 2, hq => cases hq; exact k2
    | 3, hq => cases hq; exact k3
    | k + 4, hq => simp [vwCl] at hq
  · intro k q hq
    match k, hq with
    | 0, hq => cases hq; exact ⟨aI, fI⟩
    | k + 1, hq => simp [gTy, wTy] at hq
  · intro k q hq
    match k, hq with
    | 0, hq => cases hq; exact t0
    | 1, hq => cases hq; exact t1
    | 2, hq => cases hq; exact t2
    | 3, hq =>
      cases hq
      obtain ⟨scr, h1, h2, h3, h4, h5⟩ := hX
      exact ⟨scr, h1, h2, h3, Nat.le_of_eq h4.symm, by rw [h4], h5, hA b hbl⟩
    | k + 4, hq => simp [gCst] at hq
  · intro k q hq
    match k, hq with
    | 0, hq => cases hq; exact z0
    | 1, hq => cases hq; exact z1
    | 2, hq => cases hq; exact z2
    | k + 3, hq => simp [wSN] at hq
  · intro k q hq
    match k, hq with
    | 0, hq => cases hq; exact s0
    | 1, hq => cases hq; exact s1
    | 2, hq => cases hq; exact s2
    | k + 3, hq => simp [gSts] at hq
  · exact vx_Zqof (hts _ (by decide +kernel)) (hts _ (by decide +kernel)) (hs _ (by decide +kernel)) hA
  · exact vx_Zqof (hts _ (by decide +kernel)) (hts _ (by decide +kernel)) (hs _ (by decide +kernel)) hA
  · intro q h
    exact absurd h List.not_mem_nil
  · intro q h
    exact absurd h List.not_mem_nil
end LWM
