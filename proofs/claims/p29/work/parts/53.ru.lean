section LWI
theorem wl_cell : ∀ w ∈ [Cond.methodLink RL 91 yL_cell, .static yL_cell, .initialized yL_cell.cls, .code yL_cell cL_cell 2 (some .int)], w ∈ wGT := fun w hw => List.mem_filter.mpr ((by decide +kernel : ∀ w ∈ [Cond.methodLink RL 91 yL_cell, .static yL_cell, .initialized yL_cell.cls, .code yL_cell cL_cell 2 (some .int)], w ∈ lw_tbl ∧ goodWord w = true) w hw)
theorem wl_low : ∀ w ∈ [Cond.methodLink RL 15 yL_low, .static yL_low, .initialized yL_low.cls, .code yL_low cL_low 2 (some .int)], w ∈ wGT := fun w hw => List.mem_filter.mpr ((by decide +kernel : ∀ w ∈ [Cond.methodLink RL 15 yL_low, .static yL_low, .initialized yL_low.cls, .code yL_low cL_low 2 (some .int)], w ∈ lw_tbl ∧ goodWord w = true) w hw)
theorem wl_tell : ∀ w ∈ [Cond.methodLink RL 87 yL_tell, .static yL_tell, .initialized yL_tell.cls, .code yL_tell cL_tell 6 (some .boolean)], w ∈ wGT := fun w hw => List.mem_filter.mpr ((by decide +kernel : ∀ w ∈ [Cond.methodLink RL 87 yL_tell, .static yL_tell, .initialized yL_tell.cls, .code yL_tell cL_tell 6 (some .boolean)], w ∈ lw_tbl ∧ goodWord w = true) w hw)
theorem wl_act : ∀ w ∈ [Cond.methodLink RL 95 yL_act, .static yL_act, .initialized yL_act.cls, .code yL_act cL_act 7 (some .boolean)], w ∈ wGT := fun w hw => List.mem_filter.mpr ((by decide +kernel : ∀ w ∈ [Cond.methodLink RL 95 yL_act, .static yL_act, .initialized yL_act.cls, .code yL_act cL_act 7 (some .boolean)], w ∈ lw_tbl ∧ goodWord w = true) w hw)
theorem wl_ferries : ∀ w ∈ [Cond.methodLink RL 98 yL_ferries, .static yL_ferries, .initialized yL_ferries.cls, .code yL_ferries cL_ferries 6 (some .boolean)], w ∈ wGT := fun w hw => List.mem_filter.mpr ((by decide +kernel : ∀ w ∈ [Cond.methodLink RL 98 yL_ferries, .static yL_ferries, .initialized yL_ferries.cls, .code yL_ferries cL_ferries 6 (some .boolean)], w ∈ lw_tbl ∧ goodWord w = true) w hw)
theorem wl_soonest : ∀ w ∈ [Cond.methodLink RL 102 yL_soonest, .static yL_soonest, .initialized yL_soonest.cls, .code yL_soonest cL_soonest 5 (some .boolean)], w ∈ wGT := fun w hw => List.mem_filter.mpr ((by decide +kernel : ∀ w ∈ [Cond.methodLink RL 102 yL_soonest, .static yL_soonest, .initialized yL_soonest.cls, .code yL_soonest cL_soonest 5 (some .boolean)], w ∈ lw_tbl ∧ goodWord w = true) w hw)
theorem wl_cheapest : ∀ w ∈ [Cond.methodLink RL 104 yL_cheapest, .static yL_cheapest, .initialized yL_cheapest.cls, .code yL_cheapest cL_cheapest 10 (some .boolean)], w ∈ wGT := fun w hw => List.mem_filter.mpr ((by decide +kernel : ∀ w ∈ [Cond.methodLink RL 104 yL_cheapest, .static yL_cheapest, .initialized yL_cheapest.cls, .code yL_cheapest cL_cheapest 10 (some .boolean)], w ∈ lw_tbl ∧ goodWord w = true) w hw)
theorem wl_lastStart : ∀ w ∈ [Cond.methodLink RL 107 yL_lastStart, .static yL_lastStart, .initialized yL_lastStart.cls, .code yL_lastStart cL_lastStart 7 (some .boolean)], w ∈ wGT := fun w hw => List.mem_filter.mpr ((by decide +kernel : ∀ w ∈ [Cond.methodLink RL 107 yL_lastStart, .static yL_lastStart, .initialized yL_lastStart.cls, .code yL_lastStart cL_lastStart 7 (some .boolean)], w ∈ lw_tbl ∧ goodWord w = true) w hw)
theorem wl_reach : ∀ w ∈ [Cond.methodLink RL 110 yL_reach, .static yL_reach, .initialized yL_reach.cls, .code yL_reach cL_reach 7 (some .boolean)], w ∈ wGT := fun w hw => List.mem_filter.mpr ((by decide +kernel : ∀ w ∈ [Cond.methodLink RL 110 yL_reach, .static yL_reach, .initialized yL_reach.cls, .code yL_reach cL_reach 7 (some .boolean)], w ∈ lw_tbl ∧ goodWord w = true) w hw)
theorem wl_joined : ∀ w ∈ [Cond.methodLink RL 112 yL_joined, .static yL_joined, .initialized yL_joined.cls, .code yL_joined cL_joined 3 (some .boolean)], w ∈ wGT := fun w hw => List.mem_filter.mpr ((by decide +kernel : ∀ w ∈ [Cond.methodLink RL 112 yL_joined, .static yL_joined, .initialized yL_joined.cls, .code yL_joined cL_joined 3 (some .boolean)], w ∈ lw_tbl ∧ goodWord w = true) w hw)
variable {p : Program} {l : Launch} {e : Env} {s : State} {m : MethodId} {args : Array Value} {below : List Frame} {meth : Method} {c : Code} {Qf : State → Prop} {A : Nat → Prop} {nL : Nat} {g : gW}
theorem ro_c : 300 ≤ room_1.cells ∧ 4000 ≤ room_1.slots := ⟨Nat.le_of_ble_eq_true rfl, Nat.le_of_ble_eq_true rfl⟩
theorem calls_K_law (hl : l.stackTraces = false) (X : wCtx l g.1 vwCl (gTy g) (gCst g) (gStf g) (gSts g) p s m args c A code nL RL) {k n : Nat} (hk : k ≤ 300) (hn : n ≤ 4000) : ∀ (q : Nat) (z : Instr × Nat), ct_K_law[q]? = some z → wCall code (wG p l e room_1 s m args below meth c Qf k n g.1 vwCl A nL) (fun _ _ => False) z.1 z.2 (sps_K_law g q) := by
  intro q z hz
  match q, hz with
  | 0, hz => cases hz; exact wCS (n := 2) X (c_L_cell l hl g) wl_cell ⟨rfl, rfl⟩ (by decide +kernel) ⟨Nat.le_of_ble_eq_true rfl, Nat.le_of_ble_eq_true rfl⟩ ⟨Nat.le_trans hk ro_c.1, Nat.le_trans hn ro_c.2⟩
  | 1, hz => cases hz; exact wCS (n := 2) X (c_L_low l hl g) wl_low ⟨rfl, rfl⟩ (by decide +kernel) ⟨Nat.le_of_ble_eq_true rfl, Nat.le_of_ble_eq_true rfl⟩ ⟨Nat.le_trans hk ro_c.1, Nat.le_trans hn ro_c.2⟩
  | q + 2, hz => exact absurd hz (by simp [ct_K_law])
theorem lRet_of (hret : ∀ (pc : Nat) (H : Heap) (ls : Array Slot), decode code pc = .ok (.ireturn, 1) → W p l e room_1 s m args below meth c H [] 600074 7301550 Qf (F0 m pc ls [.int 1])) (hA : ∀ q, A q → s.heap.size ≤ q) {k n : Nat} (hk : k ≤ 600074) (hn : n ≤ 7301550) {D : va_G} {cl : List vw_C} :
    wRet code (wG p l e room_1 s m args below meth c Qf k n D cl A nL) (some .boolean) (fun v _ => v = some (.int 1)) := by
  intro pc i v lo w hd hv hq H locs ls hl hP hD hS
  subst hq
  unfold w_rv at hv
  split at hv
  · rename_i x he
    cases he
    exact W.widen hk hn (va_forget (fun q hq => hA _ (hS.2.2 q hq)) (hret pc H ls hd))
  · rename_i he; cases he
  · rename_i he; cases he
  · rename_i he; cases he
  · exact hv.elim
theorem lOK_of (hl : l.stackTraces = false) (X : wCtx l g.1 vwCl (gTy g) (gCst g) (gStf g) (gSts g) p s m args c A code nL RL) (hret : ∀ (pc : Nat) (H : Heap) (ls : Array Slot), decode code pc = .ok (.ireturn, 1) → W p l e room_1 s m args below meth c H [] 600074 7301550 Qf (F0 m pc ls [.int 1])) (hA : ∀ q, A q → s.heap.size ≤ q) (h9 : nL = 9) : lOK g (fun k n => wG p l e room_1 s m args below meth c Qf k n g.1 vwCl A nL) := by
  subst h9
  intro k n hk hn
  exact wB_sound (ct := ct_K_law) X.1.1 X.1.2.1 X.1.2.2.2.1 (fun w h => X.1.2.2.2.2 w (oi_K_law w h)) X.2.1 X.2.2.1 w_tyok_vw (lRet_of hret hA (Nat.le_trans hk (Nat.le_of_ble_eq_true rfl)) (Nat.le_trans hn (Nat.le_of_ble_eq_true rfl))) (calls_K_law hl X hk hn)
theorem lAll_of (hl : l.stackTraces = false) (X : wCtx l g.1 vwCl (gTy g) (gCst g) (gStf g) (gSts g) p s m args c A code nL RL) : lAll g (fun k n => wG p l e room_1 s m args below meth c Qf k n g.1 vwCl A nL) :=
  ⟨cR_S (n := 3) X (c_L_tell l hl g) wl_tell ⟨rfl, rfl⟩ (by decide +kernel) ⟨Nat.le_of_ble_eq_true rfl, Nat.le_of_ble_eq_true rfl⟩ ro_c (by decide +kernel),
   cR_S (n := 3) X (c_L_act l hl g) wl_act ⟨rfl, rfl⟩ (by decide +kernel) ⟨Nat.le_of_ble_eq_true rfl, Nat.le_of_ble_eq_true rfl⟩ ro_c (by decide +kernel),
   cR_S (n := 2) X (c_L_ferries l hl g) wl_ferries ⟨rfl, rfl⟩ (by decide +kernel) ⟨Nat.le_of_ble_eq_true rfl, Nat.le_of_ble_eq_true rfl⟩ ro_c (by decide +kernel),
   cR_N (n := 3) X (c_L_soonest l hl g) wl_soonest ⟨rfl, rfl⟩ (by decide +kernel) ⟨Nat.le_of_ble_eq_true rfl, Nat.le_of_ble_eq_true rfl⟩ ro_c (by decide +kernel),
   cR_S (n := 5) X (c_L_cheapest l hl g) wl_cheapest ⟨rfl, rfl⟩ (by decide +kernel) ⟨Nat.le_of_ble_eq_true rfl, Nat.le_of_ble_eq_true rfl⟩ ro_c (by decide +kernel),
   cR_S (n := 4) X (c_L_lastStart l hl g) wl_lastStart ⟨rfl, rfl⟩ (by decide +kernel) ⟨Nat.le_of_ble_eq_true rfl, Nat.le_of_ble_eq_true rfl⟩ ro_c (by decide +kernel),
   cR_S (n := 2) X (c_L_reach l hl g) wl_reach ⟨rfl, rfl⟩ (by decide +kernel) ⟨Nat.le_of_ble_eq_true rfl, Nat.le_of_ble_eq_true rfl⟩ ro_c (by decide +kernel),
   cR_S (n := 1) X (c_L_joined l hl g) wl_joined ⟨rfl, rfl⟩ (by decide +kernel) ⟨Nat.le_of_ble_eq_true rfl, Nat.le_of_ble_eq_true rfl⟩ ro_c (by decide +kernel)⟩
end LWI
