noncomputable section LSB
theorem wl_so1 : ∀ w ∈ [Cond.methodLink RL 45 yX3_soonest, .instanceMethod yX3_soonest, .selects RX3 yX3_soonest yX3_soonest, .initialized RX3, .code yX3_soonest cX3_soonest 4 (some .int)], w ∈ wGT := fun w hw => List.mem_filter.mpr ((by decide +kernel : ∀ w ∈ [Cond.methodLink RL 45 yX3_soonest, .instanceMethod yX3_soonest, .selects RX3 yX3_soonest yX3_soonest, .initialized RX3, .code yX3_soonest cX3_soonest 4 (some .int)], w ∈ lw_tbl ∧ goodWord w = true) w hw)
theorem wl_so2 : ∀ w ∈ [Cond.methodLink RL 49 yL_byFerries, .static yL_byFerries, .initialized yL_byFerries.cls, .code yL_byFerries cL_byFerries 8 (some .int)], w ∈ wGT := fun w hw => List.mem_filter.mpr ((by decide +kernel : ∀ w ∈ [Cond.methodLink RL 49 yL_byFerries, .static yL_byFerries, .initialized yL_byFerries.cls, .code yL_byFerries cL_byFerries 8 (some .int)], w ∈ lw_tbl ∧ goodWord w = true) w hw)
theorem ar_I : Cond.arrayClass .int ∈ wGT := List.mem_filter.mpr (by decide +kernel)
theorem d_so_2 : decode cL_soonest 2 = .ok (.newarray .int, 2) := by decide +kernel
set_option maxRecDepth 100000 in
theorem c_L_soonest (l : Launch) (hl : l.stackTraces = false) (g : gW) : wMN l g yL_soonest (wWs yL_soonest cL_soonest 5 (some .boolean)) rm_so 17 104 (sp_L_soonest g) := by
  intro av w K KX sz hsp
  obtain ⟨⟨hav1, hav2⟩, hw⟩ := walk_so g av w K KX hsp
  refine Met.ofW (cc := cL_soonest) (maxL := 5) (ret := some .boolean) (by decide +kernel) rfl ?_
  intro p e s m args below meth c s₁ B hml hv
  obtain ⟨rfl, hsz, hP, hK, hD0, hAm⟩ := hv
  subst hsz
  have hx := B.exec
  have hb := B.bytes
  have hr := B.returns
  have hts0 := atoms_spec (ws := wWs yL_soonest cL_soonest 5 (some .boolean)) B.pre
  have hts : ∀ w ∈ wGT, w.before av.toArray s = true := fun w hw => hts0 w (List.mem_cons_of_mem _ hw)
  have hown : s.vm.findClass RL = some m.cls := findClass_of_methodNamed B.named
  have hlocks := B.notSynchronized
  have hD := hD0.self (sz := s.heap.size)
  have hA : ∀ q : Nat, s.heap.size ≤ q → va_A w s.heap.size q := fun q h => Or.inr h
  have X : wCtx l g.1 vwCl (gTy g) (gCst g) (gStf g) (gSts g) p s m av.toArray c (va_A w s.heap.size) cL_soonest 5 RL := ⟨⟨hx, hb, hml, hown, hts⟩, hK, hAm, hA⟩
  have G := hw (fun k n => wG p l e rm_so s m av.toArray below meth c (MQ below (wQ1 g.1 vwCl (gTy g) K (va_A w s.heap.size)) av.toArray s 17 104 (va_A w s.heap.size)) k n g.1 vwCl (va_A w s.heap.size) 5)
    ⟨fun k n hk hn => wB_sound (nL := 5) (ct := ct_K_soonest) hx hb hown (fun w h => hts w (oi_K_soonest w h)) hK hAm w_tyok_vw (wRet_n hk hn hx hb hr hlocks hK) (fun k q h => by simp [ct_K_soonest] at h),
     fun lo w hk => wG_arr (N := 8) (cA := gI g) (ty := .int) (atype := .int) (a0 := (8, .inl (fun _ => ii 0))) X (t0 := 0) rfl rfl (fun _ _ h => h) ar_I (fun _ => rfl) (by decide) (by decide) (by decide) (by decide) (by decide) d_so_2 hk,
     fun k n pc lo st N V T W sc os q U h => wG_sub [0, 1, 2, 3, 4, 5, 6, 7, 8, 9, 10, 11, 12, 13] (by decide) rfl rfl h,
     cR_V (n := 3) (ci := 3) X (c_X3_soonest l hl g) wl_so1 ⟨rfl, rfl⟩ (by decide +kernel) ⟨Nat.le_of_ble_eq_true rfl, Nat.le_of_ble_eq_true rfl⟩ rfl ⟨Nat.le_refl _, Nat.le_refl _⟩ (rv_X3_soonest g) (by decide +kernel),
     cR_S (n := 3) X (c_L_byFerries l hl g) wl_so2 ⟨rfl, rfl⟩ (by decide +kernel) ⟨Nat.le_of_ble_eq_true rfl, Nat.le_of_ble_eq_true rfl⟩ ⟨Nat.le_refl _, Nat.le_refl _⟩ (by decide +kernel)⟩
  rw [lg_entry_eq]
  exact G s.heap [] _ (w_in_LR hav1 hav2) hP hD va_S.rf
end LSB
