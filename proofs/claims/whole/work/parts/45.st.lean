section LWJ
variable {p : Program} {l : Launch} {e : Env} {s : State} {m : MethodId} {args : Array Value} {below : List Frame} {meth : Method} {c : Code} {Qf : State → Prop} {A : Nat → Prop}
/-- the addresses of what the law makes -/
def gNew (g : gW) (as : List Nat) : gW := (g.1, fun k => if k < 20 then gA g k else as.getD (k - 20) 0, g.2.2)
theorem lk_8 : Cond.classLink RL 8 RX3 ∈ wGT := List.mem_filter.mpr (by decide +kernel)
theorem lk_88 : Cond.classLink RL 88 RX4 ∈ wGT := List.mem_filter.mpr (by decide +kernel)
theorem in_X3 : Cond.instantiable RX3 6 ∈ wGT := List.mem_filter.mpr (by decide +kernel)
theorem in_X4 : Cond.instantiable RX4 11 ∈ wGT := List.mem_filter.mpr (by decide +kernel)
theorem iz_X3 : Cond.initialized RX3 ∈ wGT := List.mem_filter.mpr (by decide +kernel)
theorem iz_X4 : Cond.initialized RX4 ∈ wGT := List.mem_filter.mpr (by decide +kernel)
theorem ml_X3 : ∀ w ∈ [Cond.methodLink RL 87 yX3_init, .instanceMethod yX3_init, .initialized (yX3_init).cls, .code yX3_init cX3_init 1 none], w ∈ wGT := fun w hw => List.mem_filter.mpr ((by decide +kernel : ∀ w ∈ [Cond.methodLink RL 87 yX3_init, .instanceMethod yX3_init, .initialized (yX3_init).cls, .code yX3_init cX3_init 1 none], w ∈ lw_tbl ∧ goodWord w = true) w hw)
theorem ml_X4 : ∀ w ∈ [Cond.methodLink RL 90 yX4_init, .instanceMethod yX4_init, .initialized (yX4_init).cls, .code yX4_init cX4_init 2 none], w ∈ wGT := fun w hw => List.mem_filter.mpr ((by decide +kernel : ∀ w ∈ [Cond.methodLink RL 90 yX4_init, .instanceMethod yX4_init, .initialized (yX4_init).cls, .code yX4_init cX4_init 2 none], w ∈ lw_tbl ∧ goodWord w = true) w hw)
theorem ar_J : Cond.arrayClass .long ∈ wGT := List.mem_filter.mpr (by decide +kernel)
theorem gNew_X {g : gW} {as : List Nat} {cc : ByteArray} {nL : Nat} {own : String} (X : wCtx l g.1 vwCl (gTy g) (gCst g) (gStf g) (gSts g) p s m args c A cc nL own) : wCtx l (gNew g as).1 vwCl (gTy (gNew g as)) (gCst (gNew g as)) (gStf (gNew g as)) (gSts (gNew g as)) p s m args c A cc nL own := by
  obtain ⟨h1, h2, h3, h4⟩ := X
  refine ⟨h1, h2, ⟨h3.1, fun k q e => ?_, h3.2.2⟩, h4⟩
  have k4 : k < 4 := (List.getElem?_eq_some_iff.mp e).1
  have e2 : gStf (gNew g as) k = gStf g k := by
    unfold gStf gNew gA
    dsimp only
    rw [if_pos (by omega)]
  rw [e2]
  exact h3.2.1 k q e
end LWJ
