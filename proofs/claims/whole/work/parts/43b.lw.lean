section LWD
def ct_law : List (Instr × Nat) := [(.invokevirtual 96, 7), (.invokevirtual 97, 1), (.invokevirtual 103, 2), (.invokevirtual 107, 3), (.invokevirtual 110, 3), (.invokevirtual 113, 3), (.invokevirtual 117, 5), (.invokevirtual 120, 3), (.invokevirtual 123, 3), (.invokevirtual 126, 2), (.invokevirtual 127, 1), (.invokevirtual 130, 1), (.invokevirtual 131, 1), (.invokevirtual 134, 1), (.invokevirtual 138, 1), (.invokevirtual 141, 1), (.invokevirtual 144, 3), (.invokevirtual 147, 3), (.invokevirtual 150, 3), (.invokevirtual 153, 3), (.invokevirtual 156, 2), (.invokevirtual 159, 2), (.invokevirtual 162, 3), (.invokevirtual 166, 4), (.invokevirtual 169, 5), (.invokevirtual 172, 2), (.invokevirtual 175, 4), (.invokevirtual 176, 1), (.invokevirtual 180, 1), (.invokevirtual 181, 1), (.invokevirtual 185, 1)]
def sps_law (g : gW) : Nat → wSp := fun k => match k with
  | 0 => sp_X4_ferry g
  | 1 => sp_X4_thrown g
  | 2 => sp_X4_drop g
  | 3 => sp_X4_kind g
  | 4 => sp_X4_clock g
  | 5 => sp_X4_set g
  | 6 => sp_X4_place g
  | 7 => sp_X4_rest g
  | 8 => sp_X4_take g
  | 9 => sp_X4_append g
  | 10 => sp_X3_clearBuffer g
  | 11 => sp_X4_clearBuffer g
  | 12 => sp_X3_firstError g
  | 13 => sp_X4_firstError g
  | 14 => sp_X4_ferries g
  | 15 => sp_X4_undo g
  | 16 => sp_X4_ferryOf g
  | 17 => sp_X4_traveller g
  | 18 => sp_X4_leaves g
  | 19 => sp_X4_costs g
  | 20 => sp_X4_count g
  | 21 => sp_X4_setting g
  | 22 => sp_X4_refusal g
  | 23 => sp_X4_soonest g
  | 24 => sp_X4_cheapest g
  | 25 => sp_X4_reach g
  | 26 => sp_X4_lastStart g
  | 27 => sp_X3_joined g
  | 28 => sp_X4_joined g
  | 29 => sp_X3_digest g
  | 30 => sp_X4_digest g
  | _ => fun _ _ _ _ => False
theorem s0_law {g : gW} : sps_law g 0 = sp_X4_ferry g := rfl
theorem s1_law {g : gW} : sps_law g 1 = sp_X4_thrown g := rfl
theorem s2_law {g : gW} : sps_law g 2 = sp_X4_drop g := rfl
theorem s3_law {g : gW} : sps_law g 3 = sp_X4_kind g := rfl
theorem s4_law {g : gW} : sps_law g 4 = sp_X4_clock g := rfl
theorem s5_law {g : gW} : sps_law g 5 = sp_X4_set g := rfl
theorem s6_law {g : gW} : sps_law g 6 = sp_X4_place g := rfl
theorem s7_law {g : gW} : sps_law g 7 = sp_X4_rest g := rfl
theorem s8_law {g : gW} : sps_law g 8 = sp_X4_take g := rfl
theorem s9_law {g : gW} : sps_law g 9 = sp_X4_append g := rfl
theorem s10_law {g : gW} : sps_law g 10 = sp_X3_clearBuffer g := rfl
theorem s11_law {g : gW} : sps_law g 11 = sp_X4_clearBuffer g := rfl
theorem s12_law {g : gW} : sps_law g 12 = sp_X3_firstError g := rfl
theorem s13_law {g : gW} : sps_law g 13 = sp_X4_firstError g := rfl
theorem s14_law {g : gW} : sps_law g 14 = sp_X4_ferries g := rfl
theorem s15_law {g : gW} : sps_law g 15 = sp_X4_undo g := rfl
theorem s16_law {g : gW} : sps_law g 16 = sp_X4_ferryOf g := rfl
theorem s17_law {g : gW} : sps_law g 17 = sp_X4_traveller g := rfl
theorem s18_law {g : gW} : sps_law g 18 = sp_X4_leaves g := rfl
theorem s19_law {g : gW} : sps_law g 19 = sp_X4_costs g := rfl
theorem s20_law {g : gW} : sps_law g 20 = sp_X4_count g := rfl
theorem s21_law {g : gW} : sps_law g 21 = sp_X4_setting g := rfl
theorem s22_law {g : gW} : sps_law g 22 = sp_X4_refusal g := rfl
theorem s23_law {g : gW} : sps_law g 23 = sp_X4_soonest g := rfl
theorem s24_law {g : gW} : sps_law g 24 = sp_X4_cheapest g := rfl
theorem s25_law {g : gW} : sps_law g 25 = sp_X4_reach g := rfl
theorem s26_law {g : gW} : sps_law g 26 = sp_X4_lastStart g := rfl
theorem s27_law {g : gW} : sps_law g 27 = sp_X3_joined g := rfl
theorem s28_law {g : gW} : sps_law g 28 = sp_X4_joined g := rfl
theorem s29_law {g : gW} : sps_law g 29 = sp_X3_digest g := rfl
theorem s30_law {g : gW} : sps_law g 30 = sp_X4_digest g := rfl
theorem lwc_X4_ferry : ∀ w ∈ [Cond.methodLink RL 96 yX4_ferry, .instanceMethod yX4_ferry, .selects RX4 yX4_ferry yX4_ferry, .initialized RX4, .code yX4_ferry cX4_ferry 8 (some .int)], w ∈ wGT := wGT_of _ [798, 799, 800, 57, 801] (by decide +kernel) (by decide +kernel)
theorem lwc_X4_thrown : ∀ w ∈ [Cond.methodLink RL 97 yX4_thrown, .instanceMethod yX4_thrown, .selects RX4 yX4_thrown yX4_thrown, .initialized RX4, .code yX4_thrown cX4_thrown 1 (some .int)], w ∈ wGT := wGT_of _ [786, 787, 788, 57, 789] (by decide +kernel) (by decide +kernel)
theorem lwc_X4_drop : ∀ w ∈ [Cond.methodLink RL 103 yX4_drop, .instanceMethod yX4_drop, .selects RX4 yX4_drop yX4_drop, .initialized RX4, .code yX4_drop cX4_drop 3 (some .int)], w ∈ wGT := wGT_of _ [816, 817, 818, 57, 819] (by decide +kernel) (by decide +kernel)
theorem lwc_X4_kind : ∀ w ∈ [Cond.methodLink RL 107 yX4_kind, .instanceMethod yX4_kind, .selects RX4 yX4_kind yX4_kind, .initialized RX4, .code yX4_kind cX4_kind 3 (some .int)], w ∈ wGT := wGT_of _ [824, 825, 826, 57, 827] (by decide +kernel) (by decide +kernel)
theorem lwc_X4_clock : ∀ w ∈ [Cond.methodLink RL 110 yX4_clock, .instanceMethod yX4_clock, .selects RX4 yX4_clock yX4_clock, .initialized RX4, .code yX4_clock cX4_clock 3 (some .int)], w ∈ wGT := wGT_of _ [832, 833, 834, 57, 835] (by decide +kernel) (by decide +kernel)
theorem lwc_X4_set : ∀ w ∈ [Cond.methodLink RL 113 yX4_set, .instanceMethod yX4_set, .selects RX4 yX4_set yX4_set, .initialized RX4, .code yX4_set cX4_set 3 (some .int)], w ∈ wGT := wGT_of _ [840, 841, 842, 57, 843] (by decide +kernel) (by decide +kernel)
theorem lwc_X4_place : ∀ w ∈ [Cond.methodLink RL 117 yX4_place, .instanceMethod yX4_place, .selects RX4 yX4_place yX4_place, .initialized RX4, .code yX4_place cX4_place 7 (some .int)], w ∈ wGT := wGT_of _ [872, 873, 874, 57, 875] (by decide +kernel) (by decide +kernel)
theorem lwc_X4_rest : ∀ w ∈ [Cond.methodLink RL 120 yX4_rest, .instanceMethod yX4_rest, .selects RX4 yX4_rest yX4_rest, .initialized RX4, .code yX4_rest cX4_rest 4 (some .int)], w ∈ wGT := wGT_of _ [883, 884, 885, 57, 886] (by decide +kernel) (by decide +kernel)
theorem lwc_X4_take : ∀ w ∈ [Cond.methodLink RL 123 yX4_take, .instanceMethod yX4_take, .selects RX4 yX4_take yX4_take, .initialized RX4, .code yX4_take cX4_take 6 (some .int)], w ∈ wGT := wGT_of _ [895, 896, 897, 57, 898] (by decide +kernel) (by decide +kernel)
theorem lwc_X4_append : ∀ w ∈ [Cond.methodLink RL 126 yX4_append, .instanceMethod yX4_append, .selects RX4 yX4_append yX4_append, .initialized RX4, .code yX4_append cX4_append 2 (some .int)], w ∈ wGT := wGT_of _ [899, 900, 901, 57, 902] (by decide +kernel) (by decide +kernel)
theorem lwc_X3_clearBuffer : ∀ w ∈ [Cond.methodLink RL 127 yX3_clearBuffer, .instanceMethod yX3_clearBuffer, .selects RX3 yX3_clearBuffer yX3_clearBuffer, .initialized RX3, .code yX3_clearBuffer cX3_clearBuffer 2 (some .int)], w ∈ wGT := wGT_of _ [163, 164, 165, 53, 166] (by decide +kernel) (by decide +kernel)
theorem lwc_X4_clearBuffer : ∀ w ∈ [Cond.methodLink RL 130 yX4_clearBuffer, .instanceMethod yX4_clearBuffer, .selects RX4 yX4_clearBuffer yX4_clearBuffer, .initialized RX4, .code yX4_clearBuffer cX4_clearBuffer 2 (some .int)], w ∈ wGT := wGT_of _ [903, 904, 905, 57, 906] (by decide +kernel) (by decide +kernel)
theorem lwc_X3_firstError : ∀ w ∈ [Cond.methodLink RL 131 yX3_firstError, .instanceMethod yX3_firstError, .selects RX3 yX3_firstError yX3_firstError, .initialized RX3, .code yX3_firstError cX3_firstError 1 (some .int)], w ∈ wGT := wGT_of _ [175, 176, 177, 53, 178] (by decide +kernel) (by decide +kernel)
theorem lwc_X4_firstError : ∀ w ∈ [Cond.methodLink RL 134 yX4_firstError, .instanceMethod yX4_firstError, .selects RX4 yX4_firstError yX4_firstError, .initialized RX4, .code yX4_firstError cX4_firstError 2 (some .int)], w ∈ wGT := wGT_of _ [907, 908, 909, 57, 910] (by decide +kernel) (by decide +kernel)
theorem lwc_X4_ferries : ∀ w ∈ [Cond.methodLink RL 138 yX4_ferries, .instanceMethod yX4_ferries, .selects RX4 yX4_ferries yX4_ferries, .initialized RX4, .code yX4_ferries cX4_ferries 3 (some .int)], w ∈ wGT := wGT_of _ [935, 936, 937, 57, 938] (by decide +kernel) (by decide +kernel)
theorem lwc_X4_undo : ∀ w ∈ [Cond.methodLink RL 141 yX4_undo, .instanceMethod yX4_undo, .selects RX4 yX4_undo yX4_undo, .initialized RX4, .code yX4_undo cX4_undo 2 (some .int)], w ∈ wGT := wGT_of _ [790, 791, 792, 57, 793] (by decide +kernel) (by decide +kernel)
theorem lwc_X4_ferryOf : ∀ w ∈ [Cond.methodLink RL 144 yX4_ferryOf, .instanceMethod yX4_ferryOf, .selects RX4 yX4_ferryOf yX4_ferryOf, .initialized RX4, .code yX4_ferryOf cX4_ferryOf 3 (some .int)], w ∈ wGT := wGT_of _ [939, 940, 941, 57, 942] (by decide +kernel) (by decide +kernel)
theorem lwc_X4_traveller : ∀ w ∈ [Cond.methodLink RL 147 yX4_traveller, .instanceMethod yX4_traveller, .selects RX4 yX4_traveller yX4_traveller, .initialized RX4, .code yX4_traveller cX4_traveller 3 (some .int)], w ∈ wGT := wGT_of _ [943, 944, 945, 57, 946] (by decide +kernel) (by decide +kernel)
theorem lwc_X4_leaves : ∀ w ∈ [Cond.methodLink RL 150 yX4_leaves, .instanceMethod yX4_leaves, .selects RX4 yX4_leaves yX4_leaves, .initialized RX4, .code yX4_leaves cX4_leaves 3 (some .int)], w ∈ wGT := wGT_of _ [844, 845, 846, 57, 847] (by decide +kernel) (by decide +kernel)
theorem lwc_X4_costs : ∀ w ∈ [Cond.methodLink RL 153 yX4_costs, .instanceMethod yX4_costs, .selects RX4 yX4_costs yX4_costs, .initialized RX4, .code yX4_costs cX4_costs 3 (some .int)], w ∈ wGT := wGT_of _ [864, 865, 866, 57, 867] (by decide +kernel) (by decide +kernel)
theorem lwc_X4_count : ∀ w ∈ [Cond.methodLink RL 156 yX4_count, .instanceMethod yX4_count, .selects RX4 yX4_count yX4_count, .initialized RX4, .code yX4_count cX4_count 2 (some .int)], w ∈ wGT := wGT_of _ [947, 948, 949, 57, 950] (by decide +kernel) (by decide +kernel)
theorem lwc_X4_setting : ∀ w ∈ [Cond.methodLink RL 159 yX4_setting, .instanceMethod yX4_setting, .selects RX4 yX4_setting yX4_setting, .initialized RX4, .code yX4_setting cX4_setting 2 (some .int)], w ∈ wGT := wGT_of _ [836, 837, 838, 57, 839] (by decide +kernel) (by decide +kernel)
theorem lwc_X4_refusal : ∀ w ∈ [Cond.methodLink RL 162 yX4_refusal, .instanceMethod yX4_refusal, .selects RX4 yX4_refusal yX4_refusal, .initialized RX4, .code yX4_refusal cX4_refusal 3 (some .int)], w ∈ wGT := wGT_of _ [887, 888, 889, 57, 890] (by decide +kernel) (by decide +kernel)
theorem lwc_X4_soonest : ∀ w ∈ [Cond.methodLink RL 166 yX4_soonest, .instanceMethod yX4_soonest, .selects RX4 yX4_soonest yX4_soonest, .initialized RX4, .code yX4_soonest cX4_soonest 4 (some .int)], w ∈ wGT := wGT_of _ [955, 956, 957, 57, 958] (by decide +kernel) (by decide +kernel)
theorem lwc_X4_cheapest : ∀ w ∈ [Cond.methodLink RL 169 yX4_cheapest, .instanceMethod yX4_cheapest, .selects RX4 yX4_cheapest yX4_cheapest, .initialized RX4, .code yX4_cheapest cX4_cheapest 6 (some .int)], w ∈ wGT := wGT_of _ [969, 970, 971, 57, 972] (by decide +kernel) (by decide +kernel)
theorem lwc_X4_reach : ∀ w ∈ [Cond.methodLink RL 172 yX4_reach, .instanceMethod yX4_reach, .selects RX4 yX4_reach yX4_reach, .initialized RX4, .code yX4_reach cX4_reach 4 (some .int)], w ∈ wGT := wGT_of _ [980, 981, 982, 57, 983] (by decide +kernel) (by decide +kernel)
theorem lwc_X4_lastStart : ∀ w ∈ [Cond.methodLink RL 175 yX4_lastStart, .instanceMethod yX4_lastStart, .selects RX4 yX4_lastStart yX4_lastStart, .initialized RX4, .code yX4_lastStart cX4_lastStart 7 (some .int)], w ∈ wGT := wGT_of _ [984, 985, 986, 57, 987] (by decide +kernel) (by decide +kernel)
theorem lwc_X3_joined : ∀ w ∈ [Cond.methodLink RL 176 yX3_joined, .instanceMethod yX3_joined, .selects RX3 yX3_joined yX3_joined, .initialized RX3, .code yX3_joined cX3_joined 1 (some .double)], w ∈ wGT := wGT_of _ [216, 217, 218, 53, 219] (by decide +kernel) (by decide +kernel)
theorem lwc_X4_joined : ∀ w ∈ [Cond.methodLink RL 180 yX4_joined, .instanceMethod yX4_joined, .selects RX4 yX4_joined yX4_joined, .initialized RX4, .code yX4_joined cX4_joined 4 (some .double)], w ∈ wGT := wGT_of _ [964, 965, 966, 57, 967] (by decide +kernel) (by decide +kernel)
theorem lwc_X3_digest : ∀ w ∈ [Cond.methodLink RL 181 yX3_digest, .instanceMethod yX3_digest, .selects RX3 yX3_digest yX3_digest, .initialized RX3, .code yX3_digest cX3_digest 4 (some .long)], w ∈ wGT := wGT_of _ [264, 265, 266, 53, 267] (by decide +kernel) (by decide +kernel)
theorem lwc_X4_digest : ∀ w ∈ [Cond.methodLink RL 185 yX4_digest, .instanceMethod yX4_digest, .selects RX4 yX4_digest yX4_digest, .initialized RX4, .code yX4_digest cX4_digest 5 (some .long)], w ∈ wGT := wGT_of _ [992, 993, 994, 57, 995] (by decide +kernel) (by decide +kernel)
variable {p : Program} {l : Launch} {e : Env} {s : State} {m : MethodId} {args : Array Value} {below : List Frame} {meth : Method} {c : Code} {Qf : State → Prop} {A : Nat → Prop} {nL : Nat}
set_option maxRecDepth 100000 in
theorem calls_law {g : gW} (hl : l.stackTraces = false) (X : wCtx l g.1 vwCl (gTy g) (gCst g) (gStf g) (gSts g) p s m args c A code nL RL) {k0 n0 : Nat} (hk : k0 ≤ 1049) (hn : n0 ≤ 23862) : ∀ (k : Nat) (q : Instr × Nat), ct_law[k]? = some q → wCall code (wG p l e room_1 s m args below meth c Qf k0 n0 g.1 vwCl A nL) (fun _ _ => False) q.1 q.2 (sps_law g k) := by
  intro k q hq
  match k, hq with
  | 0, hq => cases hq; exact wCV X (c_X4_ferry l hl g) lwc_X4_ferry ⟨rfl, rfl⟩ (n := 6) (by decide +kernel) ⟨by decide, by decide⟩ (ci := 4) rfl ⟨hk, hn⟩ (rv_X4_ferry g)
  | 1, hq => cases hq; exact wCV X (c_X4_thrown l hl g) lwc_X4_thrown ⟨rfl, rfl⟩ (n := 0) (by decide +kernel) ⟨by decide, by decide⟩ (ci := 4) rfl ⟨hk, hn⟩ (rv_X4_thrown g)
  | 2, hq => cases hq; exact wCV X (c_X4_drop l hl g) lwc_X4_drop ⟨rfl, rfl⟩ (n := 1) (by decide +kernel) ⟨by decide, by decide⟩ (ci := 4) rfl ⟨hk, hn⟩ (rv_X4_drop g)
  | 3, hq => cases hq; exact wCV X (c_X4_kind l hl g) lwc_X4_kind ⟨rfl, rfl⟩ (n := 2) (by decide +kernel) ⟨by decide, by decide⟩ (ci := 4) rfl ⟨hk, hn⟩ (rv_X4_kind g)
  | 4, hq => cases hq; exact wCV X (c_X4_clock l hl g) lwc_X4_clock ⟨rfl, rfl⟩ (n := 2) (by decide +kernel) ⟨by decide, by decide⟩ (ci := 4) rfl ⟨hk, hn⟩ (rv_X4_clock g)
  | 5, hq => cases hq; exact wCV X (c_X4_set l hl g) lwc_X4_set ⟨rfl, rfl⟩ (n := 2) (by decide +kernel) ⟨by decide, by decide⟩ (ci := 4) rfl ⟨hk, hn⟩ (rv_X4_set g)
  | 6, hq => cases hq; exact wCV X (c_X4_place l hl g) lwc_X4_place ⟨rfl, rfl⟩ (n := 4) (by decide +kernel) ⟨by decide, by decide⟩ (ci := 4) rfl ⟨hk, hn⟩ (rv_X4_place g)
  | 7, hq => cases hq; exact wCV X (c_X4_rest l hl g) lwc_X4_rest ⟨rfl, rfl⟩ (n := 2) (by decide +kernel) ⟨by decide, by decide⟩ (ci := 4) rfl ⟨hk, hn⟩ (rv_X4_rest g)
  | 8, hq => cases hq; exact wCV X (c_X4_take l hl g) lwc_X4_take ⟨rfl, rfl⟩ (n := 2) (by decide +kernel) ⟨by decide, by decide⟩ (ci := 4) rfl ⟨hk, hn⟩ (rv_X4_take g)
  | 9, hq => cases hq; exact wCV X (c_X4_append l hl g) lwc_X4_append ⟨rfl, rfl⟩ (n := 1) (by decide +kernel) ⟨by decide, by decide⟩ (ci := 4) rfl ⟨hk, hn⟩ (rv_X4_append g)
  | 10, hq => cases hq; exact wCV X (c_X3_clearBuffer l hl g) lwc_X3_clearBuffer ⟨rfl, rfl⟩ (n := 0) (by decide +kernel) ⟨by decide, by decide⟩ (ci := 3) rfl ⟨hk, hn⟩ (rv_X3_clearBuffer g)
  | 11, hq => cases hq; exact wCV X (c_X4_clearBuffer l hl g) lwc_X4_clearBuffer ⟨rfl, rfl⟩ (n := 0) (by decide +kernel) ⟨by decide, by decide⟩ (ci := 4) rfl ⟨hk, hn⟩ (rv_X4_clearBuffer g)
  | 12, hq => cases hq; exact wCV X (c_X3_firstError l hl g) lwc_X3_firstError ⟨rfl, rfl⟩ (n := 0) (by decide +kernel) ⟨by decide, by decide⟩ (ci := 3) rfl ⟨hk, hn⟩ (rv_X3_firstError g)
  | 13, hq => cases hq; exact wCV X (c_X4_firstError l hl g) lwc_X4_firstError ⟨rfl, rfl⟩ (n := 0) (by decide +kernel) ⟨by decide, by decide⟩ (ci := 4) rfl ⟨hk, hn⟩ (rv_X4_firstError g)
  | 14, hq => cases hq; exact wCV X (c_X4_ferries l hl g) lwc_X4_ferries ⟨rfl, rfl⟩ (n := 0) (by decide +kernel) ⟨by decide, by decide⟩ (ci := 4) rfl ⟨hk, hn⟩ (rv_X4_ferries g)
  | 15, hq => cases hq; exact wCV X (c_X4_undo l hl g) lwc_X4_undo ⟨rfl, rfl⟩ (n := 0) (by decide +kernel) ⟨by decide, by decide⟩ (ci := 4) rfl ⟨hk, hn⟩ (rv_X4_undo g)
  | 16, hq => cases hq; exact wCV X (c_X4_ferryOf l hl g) lwc_X4_ferryOf ⟨rfl, rfl⟩ (n := 2) (by decide +kernel) ⟨by decide, by decide⟩ (ci := 4) rfl ⟨hk, hn⟩ (rv_X4_ferryOf g)
  | 17, hq => cases hq; exact wCV X (c_X4_traveller l hl g) lwc_X4_traveller ⟨rfl, rfl⟩ (n := 2) (by decide +kernel) ⟨by decide, by decide⟩ (ci := 4) rfl ⟨hk, hn⟩ (rv_X4_traveller g)
  | 18, hq => cases hq; exact wCV X (c_X4_leaves l hl g) lwc_X4_leaves ⟨rfl, rfl⟩ (n := 2) (by decide +kernel) ⟨by decide, by decide⟩ (ci := 4) rfl ⟨hk, hn⟩ (rv_X4_leaves g)
  | 19, hq => cases hq; exact wCV X (c_X4_costs l hl g) lwc_X4_costs ⟨rfl, rfl⟩ (n := 2) (by decide +kernel) ⟨by decide, by decide⟩ (ci := 4) rfl ⟨hk, hn⟩ (rv_X4_costs g)
  | 20, hq => cases hq; exact wCV X (c_X4_count l hl g) lwc_X4_count ⟨rfl, rfl⟩ (n := 1) (by decide +kernel) ⟨by decide, by decide⟩ (ci := 4) rfl ⟨hk, hn⟩ (rv_X4_count g)
  | 21, hq => cases hq; exact wCV X (c_X4_setting l hl g) lwc_X4_setting ⟨rfl, rfl⟩ (n := 1) (by decide +kernel) ⟨by decide, by decide⟩ (ci := 4) rfl ⟨hk, hn⟩ (rv_X4_setting g)
  | 22, hq => cases hq; exact wCV X (c_X4_refusal l hl g) lwc_X4_refusal ⟨rfl, rfl⟩ (n := 2) (by decide +kernel) ⟨by decide, by decide⟩ (ci := 4) rfl ⟨hk, hn⟩ (rv_X4_refusal g)
  | 23, hq => cases hq; exact wCV X (c_X4_soonest l hl g) lwc_X4_soonest ⟨rfl, rfl⟩ (n := 3) (by decide +kernel) ⟨by decide, by decide⟩ (ci := 4) rfl ⟨hk, hn⟩ (rv_X4_soonest g)
  | 24, hq => cases hq; exact wCV X (c_X4_cheapest l hl g) lwc_X4_cheapest ⟨rfl, rfl⟩ (n := 4) (by decide +kernel) ⟨by decide, by decide⟩ (ci := 4) rfl ⟨hk, hn⟩ (rv_X4_cheapest g)
  | 25, hq => cases hq; exact wCV X (c_X4_reach l hl g) lwc_X4_reach ⟨rfl, rfl⟩ (n := 1) (by decide +kernel) ⟨by decide, by decide⟩ (ci := 4) rfl ⟨hk, hn⟩ (rv_X4_reach g)
  | 26, hq => cases hq; exact wCV X (c_X4_lastStart l hl g) lwc_X4_lastStart ⟨rfl, rfl⟩ (n := 3) (by decide +kernel) ⟨by decide, by decide⟩ (ci := 4) rfl ⟨hk, hn⟩ (rv_X4_lastStart g)
  | 27, hq => cases hq; exact wCV X (c_X3_joined l hl g) lwc_X3_joined ⟨rfl, rfl⟩ (n := 0) (by decide +kernel) ⟨by decide, by decide⟩ (ci := 3) rfl ⟨hk, hn⟩ (rv_X3_joined g)
  | 28, hq => cases hq; exact wCV X (c_X4_joined l hl g) lwc_X4_joined ⟨rfl, rfl⟩ (n := 0) (by decide +kernel) ⟨by decide, by decide⟩ (ci := 4) rfl ⟨hk, hn⟩ (rv_X4_joined g)
  | 29, hq => cases hq; exact wCV X (c_X3_digest l hl g) lwc_X3_digest ⟨rfl, rfl⟩ (n := 0) (by decide +kernel) ⟨by decide, by decide⟩ (ci := 3) rfl ⟨hk, hn⟩ (rv_X3_digest g)
  | 30, hq => cases hq; exact wCV X (c_X4_digest l hl g) lwc_X4_digest ⟨rfl, rfl⟩ (n := 0) (by decide +kernel) ⟨by decide, by decide⟩ (ci := 4) rfl ⟨hk, hn⟩ (rv_X4_digest g)
  | k + 31, hq => exact absurd hq (by simp [ct_law])
abbrev ck_law : List wAn → Nat → Bool := w_ckB [] RL vwCl 9 code ct_law
def lOK (g : gW) (G : Nat → Nat → wJp) : Prop := ∀ k n : Nat, k ≤ 1049 → n ≤ 23862 → gOK g (sps_law g) (some .boolean) (fun v _ => v = some (.int 1)) (fun _ _ => False) ck_law (G k n)
abbrev lL (g : gW) (i : Int) (a b c d : Option Value) : wLo := [some (.ref (gA g 7)), some (.ref (gA g 20)), some (.ref (gA g 34)), some (.ref (gA g 41)), some (.int (ii i)), a, b, c, d]
abbrev wL (g : gW) (o : Nat → Int64) (N V : Nat → Int) (T : tFT) (W : tWY) (sc os : Int) (M P : Nat → Int) (th : Int) (C : Nat → Int) (ln : Int) (R : Nat → Int) (pt ta : Int) (B Z : Nat → Int) : va_W := cO g o :: (wTF g N V T W sc os ++ wMO g M P sc th C ln R pt ta B Z)
/-- the script's number at a place of this round -/
abbrev xq (g : gW) (i j : Int) : Int32 := g.2.2.2 (i + j).toNat
theorem r32_of (x : Int32) : r32 x.toInt := ⟨Int32.le_toInt x, Int32.toInt_lt x⟩
theorem lg_cmp_self (x : Int64) : lg_cmp x x = 0 := by simp [lg_cmp]
def b_law_23 : List wAn := [(.iload 4, 2, 0, 0, 0), (.aload_n 0, 1, 0, 0, 0), (.arraylength, 1, 4, 1, 0), (.bipush 7, 2, 0, 0, 0), (.isub, 1, 0, 0, 0), (.if_icmp .gt 1727, 3, 1757, 0, 0), (.aload_n 0, 1, 0, 0, 0), (.iload 4, 2, 0, 0, 0), (.iaload, 1, 4, 1, 0), (.bipush 31, 2, 0, 0, 0), (.iand, 1, 0, 0, 0)]
theorem ch_law_23 : ck_law b_law_23 23 = true := by decide +kernel
def b_law_1751 : List wAn := [(.iinc 4 7, 3, 0, 0, 0), (.goto (-1731), 3, 23, 0, 0)]
theorem ch_law_1751 : ck_law b_law_1751 1751 = true := by decide +kernel
def b_law_1757 : List wAn := [(.iconst 1, 1, 0, 0, 0), (.ireturn, 1, 0, 0, 0)]
theorem ch_law_1757 : ck_law b_law_1757 1757 = true := by decide +kernel
def b_law_160 : List wAn := [(.aload_n 1, 1, 0, 0, 0), (.aload_n 0, 1, 0, 0, 0), (.iload 4, 2, 0, 0, 0), (.iconst 1, 1, 0, 0, 0), (.iadd, 1, 0, 0, 0), (.iaload, 1, 4, 1, 0), (.aload_n 0, 1, 0, 0, 0), (.iload 4, 2, 0, 0, 0), (.iconst 2, 1, 0, 0, 0), (.iadd, 1, 0, 0, 0), (.iaload, 1, 4, 1, 0), (.aload_n 0, 1, 0, 0, 0), (.iload 4, 2, 0, 0, 0), (.iconst 3, 1, 0, 0, 0), (.iadd, 1, 0, 0, 0), (.iaload, 1, 4, 1, 0), (.aload_n 0, 1, 0, 0, 0), (.iload 4, 2, 0, 0, 0), (.iconst 4, 1, 0, 0, 0), (.iadd, 1, 0, 0, 0), (.iaload, 1, 4, 1, 0), (.aload_n 0, 1, 0, 0, 0), (.iload 4, 2, 0, 0, 0), (.iconst 5, 1, 0, 0, 0), (.iadd, 1, 0, 0, 0), (.iaload, 1, 4, 1, 0), (.aload_n 0, 1, 0, 0, 0), (.iload 4, 2, 0, 0, 0), (.bipush 6, 2, 0, 0, 0), (.iadd, 1, 0, 0, 0), (.iaload, 1, 4, 1, 0), (.aload_n 3, 1, 0, 0, 0)]
theorem ch_law_160 : ck_law b_law_160 160 = true := by decide +kernel
def b_law_202 : List wAn := [(.istore 5, 2, 0, 0, 0), (.aload_n 2, 1, 0, 0, 0), (.aload_n 0, 1, 0, 0, 0), (.iload 4, 2, 0, 0, 0), (.iconst 1, 1, 0, 0, 0), (.iadd, 1, 0, 0, 0), (.iaload, 1, 4, 1, 0), (.aload_n 0, 1, 0, 0, 0), (.iload 4, 2, 0, 0, 0), (.iconst 2, 1, 0, 0, 0), (.iadd, 1, 0, 0, 0), (.iaload, 1, 4, 1, 0), (.aload_n 0, 1, 0, 0, 0), (.iload 4, 2, 0, 0, 0), (.iconst 3, 1, 0, 0, 0), (.iadd, 1, 0, 0, 0), (.iaload, 1, 4, 1, 0), (.aload_n 0, 1, 0, 0, 0), (.iload 4, 2, 0, 0, 0), (.iconst 4, 1, 0, 0, 0), (.iadd, 1, 0, 0, 0), (.iaload, 1, 4, 1, 0), (.aload_n 0, 1, 0, 0, 0), (.iload 4, 2, 0, 0, 0), (.iconst 5, 1, 0, 0, 0), (.iadd, 1, 0, 0, 0), (.iaload, 1, 4, 1, 0), (.aload_n 0, 1, 0, 0, 0), (.iload 4, 2, 0, 0, 0), (.bipush 6, 2, 0, 0, 0), (.iadd, 1, 0, 0, 0), (.iaload, 1, 4, 1, 0), (.invokevirtual 96, 3, 0, 1507, 7), (.istore 6, 2, 0, 0, 0), (.aload_n 2, 1, 0, 0, 0), (.invokevirtual 97, 3, 1, 1507, 1), (.iload 5, 2, 0, 0, 0), (.if_icmp .eq 5, 3, 258, 0, 0), (.iconst 0, 1, 0, 0, 0), (.ireturn, 1, 0, 0, 0)]
theorem ch_law_202 : ck_law b_law_202 202 = true := by decide +kernel
def b_law_258 : List wAn := [(.iload 5, 2, 0, 0, 0), (.ifCond .ne 15, 3, 275, 0, 0), (.aload_n 3, 1, 0, 0, 0), (.iconst 0, 1, 0, 0, 0), (.laload, 1, 0, 0, 0), (.iload 6, 2, 0, 0, 0), (.i2l, 1, 0, 0, 0), (.lcmp, 1, 0, 0, 0), (.ifCond .eq 5, 3, 275, 0, 0), (.iconst 0, 1, 0, 0, 0), (.ireturn, 1, 0, 0, 0)]
theorem ch_law_258 : ck_law b_law_258 258 = true := by decide +kernel
def b_law_275 : List wAn := [(.goto (1476), 3, 1751, 0, 0)]
theorem ch_law_275 : ck_law b_law_275 275 = true := by decide +kernel
def b_law_278 : List wAn := [(.aload_n 1, 1, 0, 0, 0), (.aload_n 0, 1, 0, 0, 0), (.iload 4, 2, 0, 0, 0), (.iconst 1, 1, 0, 0, 0), (.iadd, 1, 0, 0, 0), (.iaload, 1, 4, 1, 0), (.aload_n 3, 1, 0, 0, 0)]
theorem ch_law_278 : ck_law b_law_278 278 = true := by decide +kernel
def b_law_289 : List wAn := [(.istore 5, 2, 0, 0, 0), (.aload_n 2, 1, 0, 0, 0), (.aload_n 0, 1, 0, 0, 0), (.iload 4, 2, 0, 0, 0), (.iconst 1, 1, 0, 0, 0), (.iadd, 1, 0, 0, 0), (.iaload, 1, 4, 1, 0), (.invokevirtual 103, 3, 2, 1507, 2), (.istore 6, 2, 0, 0, 0), (.aload_n 2, 1, 0, 0, 0), (.invokevirtual 97, 3, 1, 1507, 1), (.iload 5, 2, 0, 0, 0), (.if_icmp .eq 5, 3, 314, 0, 0), (.iconst 0, 1, 0, 0, 0), (.ireturn, 1, 0, 0, 0)]
theorem ch_law_289 : ck_law b_law_289 289 = true := by decide +kernel
def b_law_314 : List wAn := [(.iload 5, 2, 0, 0, 0), (.ifCond .ne 15, 3, 331, 0, 0), (.aload_n 3, 1, 0, 0, 0), (.iconst 0, 1, 0, 0, 0), (.laload, 1, 0, 0, 0), (.iload 6, 2, 0, 0, 0), (.i2l, 1, 0, 0, 0), (.lcmp, 1, 0, 0, 0), (.ifCond .eq 5, 3, 331, 0, 0), (.iconst 0, 1, 0, 0, 0), (.ireturn, 1, 0, 0, 0)]
theorem ch_law_314 : ck_law b_law_314 314 = true := by decide +kernel
def b_law_331 : List wAn := [(.goto (1420), 3, 1751, 0, 0)]
theorem ch_law_331 : ck_law b_law_331 331 = true := by decide +kernel
def b_law_334 : List wAn := [(.aload_n 1, 1, 0, 0, 0), (.aload_n 0, 1, 0, 0, 0), (.iload 4, 2, 0, 0, 0), (.iconst 1, 1, 0, 0, 0), (.iadd, 1, 0, 0, 0), (.iaload, 1, 4, 1, 0), (.aload_n 0, 1, 0, 0, 0), (.iload 4, 2, 0, 0, 0), (.iconst 2, 1, 0, 0, 0), (.iadd, 1, 0, 0, 0), (.iaload, 1, 4, 1, 0), (.aload_n 3, 1, 0, 0, 0)]
theorem ch_law_334 : ck_law b_law_334 334 = true := by decide +kernel
def b_law_351 : List wAn := [(.istore 5, 2, 0, 0, 0), (.aload_n 2, 1, 0, 0, 0), (.aload_n 0, 1, 0, 0, 0), (.iload 4, 2, 0, 0, 0), (.iconst 1, 1, 0, 0, 0), (.iadd, 1, 0, 0, 0), (.iaload, 1, 4, 1, 0), (.aload_n 0, 1, 0, 0, 0), (.iload 4, 2, 0, 0, 0), (.iconst 2, 1, 0, 0, 0), (.iadd, 1, 0, 0, 0), (.iaload, 1, 4, 1, 0), (.invokevirtual 107, 3, 3, 1507, 3), (.istore 6, 2, 0, 0, 0), (.aload_n 2, 1, 0, 0, 0), (.invokevirtual 97, 3, 1, 1507, 1), (.iload 5, 2, 0, 0, 0), (.if_icmp .eq 5, 3, 382, 0, 0), (.iconst 0, 1, 0, 0, 0), (.ireturn, 1, 0, 0, 0)]
theorem ch_law_351 : ck_law b_law_351 351 = true := by decide +kernel
def b_law_382 : List wAn := [(.iload 5, 2, 0, 0, 0), (.ifCond .ne 15, 3, 399, 0, 0), (.aload_n 3, 1, 0, 0, 0), (.iconst 0, 1, 0, 0, 0), (.laload, 1, 0, 0, 0), (.iload 6, 2, 0, 0, 0), (.i2l, 1, 0, 0, 0), (.lcmp, 1, 0, 0, 0), (.ifCond .eq 5, 3, 399, 0, 0), (.iconst 0, 1, 0, 0, 0), (.ireturn, 1, 0, 0, 0)]
theorem ch_law_382 : ck_law b_law_382 382 = true := by decide +kernel
def b_law_399 : List wAn := [(.goto (1352), 3, 1751, 0, 0)]
theorem ch_law_399 : ck_law b_law_399 399 = true := by decide +kernel
def b_law_402 : List wAn := [(.aload_n 1, 1, 0, 0, 0), (.aload_n 0, 1, 0, 0, 0), (.iload 4, 2, 0, 0, 0), (.iconst 1, 1, 0, 0, 0), (.iadd, 1, 0, 0, 0), (.iaload, 1, 4, 1, 0), (.aload_n 0, 1, 0, 0, 0), (.iload 4, 2, 0, 0, 0), (.iconst 2, 1, 0, 0, 0), (.iadd, 1, 0, 0, 0), (.iaload, 1, 4, 1, 0), (.aload_n 3, 1, 0, 0, 0)]
theorem ch_law_402 : ck_law b_law_402 402 = true := by decide +kernel
def b_law_419 : List wAn := [(.istore 5, 2, 0, 0, 0), (.aload_n 2, 1, 0, 0, 0), (.aload_n 0, 1, 0, 0, 0), (.iload 4, 2, 0, 0, 0), (.iconst 1, 1, 0, 0, 0), (.iadd, 1, 0, 0, 0), (.iaload, 1, 4, 1, 0), (.aload_n 0, 1, 0, 0, 0), (.iload 4, 2, 0, 0, 0), (.iconst 2, 1, 0, 0, 0), (.iadd, 1, 0, 0, 0), (.iaload, 1, 4, 1, 0), (.invokevirtual 110, 3, 4, 1507, 3), (.istore 6, 2, 0, 0, 0), (.aload_n 2, 1, 0, 0, 0), (.invokevirtual 97, 3, 1, 1507, 1), (.iload 5, 2, 0, 0, 0), (.if_icmp .eq 5, 3, 450, 0, 0), (.iconst 0, 1, 0, 0, 0), (.ireturn, 1, 0, 0, 0)]
theorem ch_law_419 : ck_law b_law_419 419 = true := by decide +kernel
def b_law_450 : List wAn := [(.iload 5, 2, 0, 0, 0), (.ifCond .ne 15, 3, 467, 0, 0), (.aload_n 3, 1, 0, 0, 0), (.iconst 0, 1, 0, 0, 0), (.laload, 1, 0, 0, 0), (.iload 6, 2, 0, 0, 0), (.i2l, 1, 0, 0, 0), (.lcmp, 1, 0, 0, 0), (.ifCond .eq 5, 3, 467, 0, 0), (.iconst 0, 1, 0, 0, 0), (.ireturn, 1, 0, 0, 0)]
theorem ch_law_450 : ck_law b_law_450 450 = true := by decide +kernel
def b_law_467 : List wAn := [(.goto (1284), 3, 1751, 0, 0)]
theorem ch_law_467 : ck_law b_law_467 467 = true := by decide +kernel
def b_law_470 : List wAn := [(.aload_n 1, 1, 0, 0, 0), (.aload_n 0, 1, 0, 0, 0), (.iload 4, 2, 0, 0, 0), (.iconst 1, 1, 0, 0, 0), (.iadd, 1, 0, 0, 0), (.iaload, 1, 4, 1, 0), (.aload_n 0, 1, 0, 0, 0), (.iload 4, 2, 0, 0, 0), (.iconst 2, 1, 0, 0, 0), (.iadd, 1, 0, 0, 0), (.iaload, 1, 4, 1, 0), (.aload_n 3, 1, 0, 0, 0)]
theorem ch_law_470 : ck_law b_law_470 470 = true := by decide +kernel
def b_law_487 : List wAn := [(.istore 5, 2, 0, 0, 0), (.aload_n 2, 1, 0, 0, 0), (.aload_n 0, 1, 0, 0, 0), (.iload 4, 2, 0, 0, 0), (.iconst 1, 1, 0, 0, 0), (.iadd, 1, 0, 0, 0), (.iaload, 1, 4, 1, 0), (.aload_n 0, 1, 0, 0, 0), (.iload 4, 2, 0, 0, 0), (.iconst 2, 1, 0, 0, 0), (.iadd, 1, 0, 0, 0), (.iaload, 1, 4, 1, 0), (.invokevirtual 113, 3, 5, 1507, 3), (.istore 6, 2, 0, 0, 0), (.aload_n 2, 1, 0, 0, 0), (.invokevirtual 97, 3, 1, 1507, 1), (.iload 5, 2, 0, 0, 0), (.if_icmp .eq 5, 3, 518, 0, 0), (.iconst 0, 1, 0, 0, 0), (.ireturn, 1, 0, 0, 0)]
theorem ch_law_487 : ck_law b_law_487 487 = true := by decide +kernel
def b_law_518 : List wAn := [(.iload 5, 2, 0, 0, 0), (.ifCond .ne 15, 3, 535, 0, 0), (.aload_n 3, 1, 0, 0, 0), (.iconst 0, 1, 0, 0, 0), (.laload, 1, 0, 0, 0), (.iload 6, 2, 0, 0, 0), (.i2l, 1, 0, 0, 0), (.lcmp, 1, 0, 0, 0), (.ifCond .eq 5, 3, 535, 0, 0), (.iconst 0, 1, 0, 0, 0), (.ireturn, 1, 0, 0, 0)]
theorem ch_law_518 : ck_law b_law_518 518 = true := by decide +kernel
def b_law_535 : List wAn := [(.goto (1216), 3, 1751, 0, 0)]
theorem ch_law_535 : ck_law b_law_535 535 = true := by decide +kernel
def b_law_538 : List wAn := [(.aload_n 1, 1, 0, 0, 0), (.aload_n 0, 1, 0, 0, 0), (.iload 4, 2, 0, 0, 0), (.iconst 1, 1, 0, 0, 0), (.iadd, 1, 0, 0, 0), (.iaload, 1, 4, 1, 0), (.aload_n 0, 1, 0, 0, 0), (.iload 4, 2, 0, 0, 0), (.iconst 2, 1, 0, 0, 0), (.iadd, 1, 0, 0, 0), (.iaload, 1, 4, 1, 0), (.aload_n 0, 1, 0, 0, 0), (.iload 4, 2, 0, 0, 0), (.iconst 3, 1, 0, 0, 0), (.iadd, 1, 0, 0, 0), (.iaload, 1, 4, 1, 0), (.aload_n 0, 1, 0, 0, 0), (.iload 4, 2, 0, 0, 0), (.iconst 4, 1, 0, 0, 0), (.iadd, 1, 0, 0, 0), (.iaload, 1, 4, 1, 0), (.aload_n 3, 1, 0, 0, 0)]
theorem ch_law_538 : ck_law b_law_538 538 = true := by decide +kernel
def b_law_567 : List wAn := [(.istore 5, 2, 0, 0, 0), (.aload_n 2, 1, 0, 0, 0), (.aload_n 0, 1, 0, 0, 0), (.iload 4, 2, 0, 0, 0), (.iconst 1, 1, 0, 0, 0), (.iadd, 1, 0, 0, 0), (.iaload, 1, 4, 1, 0), (.aload_n 0, 1, 0, 0, 0), (.iload 4, 2, 0, 0, 0), (.iconst 2, 1, 0, 0, 0), (.iadd, 1, 0, 0, 0), (.iaload, 1, 4, 1, 0), (.aload_n 0, 1, 0, 0, 0), (.iload 4, 2, 0, 0, 0), (.iconst 3, 1, 0, 0, 0), (.iadd, 1, 0, 0, 0), (.iaload, 1, 4, 1, 0), (.aload_n 0, 1, 0, 0, 0), (.iload 4, 2, 0, 0, 0), (.iconst 4, 1, 0, 0, 0), (.iadd, 1, 0, 0, 0), (.iaload, 1, 4, 1, 0), (.invokevirtual 117, 3, 6, 1507, 5), (.istore 6, 2, 0, 0, 0), (.aload_n 2, 1, 0, 0, 0), (.invokevirtual 97, 3, 1, 1507, 1), (.iload 5, 2, 0, 0, 0), (.if_icmp .eq 5, 3, 610, 0, 0), (.iconst 0, 1, 0, 0, 0), (.ireturn, 1, 0, 0, 0)]
theorem ch_law_567 : ck_law b_law_567 567 = true := by decide +kernel
def b_law_610 : List wAn := [(.iload 5, 2, 0, 0, 0), (.ifCond .ne 15, 3, 627, 0, 0), (.aload_n 3, 1, 0, 0, 0), (.iconst 0, 1, 0, 0, 0), (.laload, 1, 0, 0, 0), (.iload 6, 2, 0, 0, 0), (.i2l, 1, 0, 0, 0), (.lcmp, 1, 0, 0, 0), (.ifCond .eq 5, 3, 627, 0, 0), (.iconst 0, 1, 0, 0, 0), (.ireturn, 1, 0, 0, 0)]
theorem ch_law_610 : ck_law b_law_610 610 = true := by decide +kernel
def b_law_627 : List wAn := [(.goto (1124), 3, 1751, 0, 0)]
theorem ch_law_627 : ck_law b_law_627 627 = true := by decide +kernel
def b_law_630 : List wAn := [(.aload_n 1, 1, 0, 0, 0), (.aload_n 0, 1, 0, 0, 0), (.iload 4, 2, 0, 0, 0), (.iconst 1, 1, 0, 0, 0), (.iadd, 1, 0, 0, 0), (.iaload, 1, 4, 1, 0), (.aload_n 0, 1, 0, 0, 0), (.iload 4, 2, 0, 0, 0), (.iconst 2, 1, 0, 0, 0), (.iadd, 1, 0, 0, 0), (.iaload, 1, 4, 1, 0), (.aload_n 3, 1, 0, 0, 0)]
theorem ch_law_630 : ck_law b_law_630 630 = true := by decide +kernel
def b_law_647 : List wAn := [(.istore 5, 2, 0, 0, 0), (.aload_n 2, 1, 0, 0, 0), (.aload_n 0, 1, 0, 0, 0), (.iload 4, 2, 0, 0, 0), (.iconst 1, 1, 0, 0, 0), (.iadd, 1, 0, 0, 0), (.iaload, 1, 4, 1, 0), (.aload_n 0, 1, 0, 0, 0), (.iload 4, 2, 0, 0, 0), (.iconst 2, 1, 0, 0, 0), (.iadd, 1, 0, 0, 0), (.iaload, 1, 4, 1, 0), (.invokevirtual 120, 3, 7, 1507, 3), (.istore 6, 2, 0, 0, 0), (.aload_n 2, 1, 0, 0, 0), (.invokevirtual 97, 3, 1, 1507, 1), (.iload 5, 2, 0, 0, 0), (.if_icmp .eq 5, 3, 678, 0, 0), (.iconst 0, 1, 0, 0, 0), (.ireturn, 1, 0, 0, 0)]
theorem ch_law_647 : ck_law b_law_647 647 = true := by decide +kernel
def b_law_678 : List wAn := [(.iload 5, 2, 0, 0, 0), (.ifCond .ne 15, 3, 695, 0, 0), (.aload_n 3, 1, 0, 0, 0), (.iconst 0, 1, 0, 0, 0), (.laload, 1, 0, 0, 0), (.iload 6, 2, 0, 0, 0), (.i2l, 1, 0, 0, 0), (.lcmp, 1, 0, 0, 0), (.ifCond .eq 5, 3, 695, 0, 0), (.iconst 0, 1, 0, 0, 0), (.ireturn, 1, 0, 0, 0)]
theorem ch_law_678 : ck_law b_law_678 678 = true := by decide +kernel
def b_law_695 : List wAn := [(.goto (1056), 3, 1751, 0, 0)]
theorem ch_law_695 : ck_law b_law_695 695 = true := by decide +kernel
def b_law_698 : List wAn := [(.aload_n 1, 1, 0, 0, 0), (.aload_n 0, 1, 0, 0, 0), (.iload 4, 2, 0, 0, 0), (.iconst 1, 1, 0, 0, 0), (.iadd, 1, 0, 0, 0), (.iaload, 1, 4, 1, 0), (.aload_n 0, 1, 0, 0, 0), (.iload 4, 2, 0, 0, 0), (.iconst 2, 1, 0, 0, 0), (.iadd, 1, 0, 0, 0), (.iaload, 1, 4, 1, 0), (.aload_n 3, 1, 0, 0, 0)]
theorem ch_law_698 : ck_law b_law_698 698 = true := by decide +kernel
def b_law_715 : List wAn := [(.istore 5, 2, 0, 0, 0), (.aload_n 2, 1, 0, 0, 0), (.aload_n 0, 1, 0, 0, 0), (.iload 4, 2, 0, 0, 0), (.iconst 1, 1, 0, 0, 0), (.iadd, 1, 0, 0, 0), (.iaload, 1, 4, 1, 0), (.aload_n 0, 1, 0, 0, 0), (.iload 4, 2, 0, 0, 0), (.iconst 2, 1, 0, 0, 0), (.iadd, 1, 0, 0, 0), (.iaload, 1, 4, 1, 0), (.invokevirtual 123, 3, 8, 1507, 3), (.istore 6, 2, 0, 0, 0), (.aload_n 2, 1, 0, 0, 0), (.invokevirtual 97, 3, 1, 1507, 1), (.iload 5, 2, 0, 0, 0), (.if_icmp .eq 5, 3, 746, 0, 0), (.iconst 0, 1, 0, 0, 0), (.ireturn, 1, 0, 0, 0)]
theorem ch_law_715 : ck_law b_law_715 715 = true := by decide +kernel
def b_law_746 : List wAn := [(.iload 5, 2, 0, 0, 0), (.ifCond .ne 15, 3, 763, 0, 0), (.aload_n 3, 1, 0, 0, 0), (.iconst 0, 1, 0, 0, 0), (.laload, 1, 0, 0, 0), (.iload 6, 2, 0, 0, 0), (.i2l, 1, 0, 0, 0), (.lcmp, 1, 0, 0, 0), (.ifCond .eq 5, 3, 763, 0, 0), (.iconst 0, 1, 0, 0, 0), (.ireturn, 1, 0, 0, 0)]
theorem ch_law_746 : ck_law b_law_746 746 = true := by decide +kernel
def b_law_763 : List wAn := [(.goto (988), 3, 1751, 0, 0)]
theorem ch_law_763 : ck_law b_law_763 763 = true := by decide +kernel
def b_law_766 : List wAn := [(.aload_n 1, 1, 0, 0, 0), (.aload_n 0, 1, 0, 0, 0), (.iload 4, 2, 0, 0, 0), (.iconst 1, 1, 0, 0, 0), (.iadd, 1, 0, 0, 0), (.iaload, 1, 4, 1, 0), (.aload_n 3, 1, 0, 0, 0)]
theorem ch_law_766 : ck_law b_law_766 766 = true := by decide +kernel
def b_law_777 : List wAn := [(.istore 5, 2, 0, 0, 0), (.aload_n 2, 1, 0, 0, 0), (.aload_n 0, 1, 0, 0, 0), (.iload 4, 2, 0, 0, 0), (.iconst 1, 1, 0, 0, 0), (.iadd, 1, 0, 0, 0), (.iaload, 1, 4, 1, 0), (.invokevirtual 126, 3, 9, 1507, 2), (.istore 6, 2, 0, 0, 0), (.aload_n 2, 1, 0, 0, 0), (.invokevirtual 97, 3, 1, 1507, 1), (.iload 5, 2, 0, 0, 0), (.if_icmp .eq 5, 3, 802, 0, 0), (.iconst 0, 1, 0, 0, 0), (.ireturn, 1, 0, 0, 0)]
theorem ch_law_777 : ck_law b_law_777 777 = true := by decide +kernel
def b_law_802 : List wAn := [(.iload 5, 2, 0, 0, 0), (.ifCond .ne 15, 3, 819, 0, 0), (.aload_n 3, 1, 0, 0, 0), (.iconst 0, 1, 0, 0, 0), (.laload, 1, 0, 0, 0), (.iload 6, 2, 0, 0, 0), (.i2l, 1, 0, 0, 0), (.lcmp, 1, 0, 0, 0), (.ifCond .eq 5, 3, 819, 0, 0), (.iconst 0, 1, 0, 0, 0), (.ireturn, 1, 0, 0, 0)]
theorem ch_law_802 : ck_law b_law_802 802 = true := by decide +kernel
def b_law_819 : List wAn := [(.goto (932), 3, 1751, 0, 0)]
theorem ch_law_819 : ck_law b_law_819 819 = true := by decide +kernel
def b_law_848 : List wAn := [(.aload_n 1, 1, 0, 0, 0), (.aload_n 3, 1, 0, 0, 0)]
theorem ch_law_848 : ck_law b_law_848 848 = true := by decide +kernel
def b_law_853 : List wAn := [(.istore 5, 2, 0, 0, 0), (.aload_n 2, 1, 0, 0, 0), (.invokevirtual 138, 3, 14, 1507, 1), (.istore 6, 2, 0, 0, 0), (.aload_n 2, 1, 0, 0, 0), (.invokevirtual 97, 3, 1, 1507, 1), (.iload 5, 2, 0, 0, 0), (.if_icmp .eq 5, 3, 872, 0, 0), (.iconst 0, 1, 0, 0, 0), (.ireturn, 1, 0, 0, 0)]
theorem ch_law_853 : ck_law b_law_853 853 = true := by decide +kernel
def b_law_872 : List wAn := [(.iload 5, 2, 0, 0, 0), (.ifCond .ne 15, 3, 889, 0, 0), (.aload_n 3, 1, 0, 0, 0), (.iconst 0, 1, 0, 0, 0), (.laload, 1, 0, 0, 0), (.iload 6, 2, 0, 0, 0), (.i2l, 1, 0, 0, 0), (.lcmp, 1, 0, 0, 0), (.ifCond .eq 5, 3, 889, 0, 0), (.iconst 0, 1, 0, 0, 0), (.ireturn, 1, 0, 0, 0)]
theorem ch_law_872 : ck_law b_law_872 872 = true := by decide +kernel
def b_law_889 : List wAn := [(.goto (862), 3, 1751, 0, 0)]
theorem ch_law_889 : ck_law b_law_889 889 = true := by decide +kernel
def b_law_892 : List wAn := [(.aload_n 1, 1, 0, 0, 0), (.aload_n 3, 1, 0, 0, 0)]
theorem ch_law_892 : ck_law b_law_892 892 = true := by decide +kernel
def b_law_897 : List wAn := [(.istore 5, 2, 0, 0, 0), (.aload_n 2, 1, 0, 0, 0), (.invokevirtual 141, 3, 15, 1507, 1), (.istore 6, 2, 0, 0, 0), (.aload_n 2, 1, 0, 0, 0), (.invokevirtual 97, 3, 1, 1507, 1), (.iload 5, 2, 0, 0, 0), (.if_icmp .eq 5, 3, 916, 0, 0), (.iconst 0, 1, 0, 0, 0), (.ireturn, 1, 0, 0, 0)]
theorem ch_law_897 : ck_law b_law_897 897 = true := by decide +kernel
def b_law_916 : List wAn := [(.iload 5, 2, 0, 0, 0), (.ifCond .ne 15, 3, 933, 0, 0), (.aload_n 3, 1, 0, 0, 0), (.iconst 0, 1, 0, 0, 0), (.laload, 1, 0, 0, 0), (.iload 6, 2, 0, 0, 0), (.i2l, 1, 0, 0, 0), (.lcmp, 1, 0, 0, 0), (.ifCond .eq 5, 3, 933, 0, 0), (.iconst 0, 1, 0, 0, 0), (.ireturn, 1, 0, 0, 0)]
theorem ch_law_916 : ck_law b_law_916 916 = true := by decide +kernel
def b_law_933 : List wAn := [(.goto (818), 3, 1751, 0, 0)]
theorem ch_law_933 : ck_law b_law_933 933 = true := by decide +kernel
def b_law_936 : List wAn := [(.aload_n 1, 1, 0, 0, 0), (.aload_n 0, 1, 0, 0, 0), (.iload 4, 2, 0, 0, 0), (.iconst 1, 1, 0, 0, 0), (.iadd, 1, 0, 0, 0), (.iaload, 1, 4, 1, 0), (.aload_n 0, 1, 0, 0, 0), (.iload 4, 2, 0, 0, 0), (.iconst 2, 1, 0, 0, 0), (.iadd, 1, 0, 0, 0), (.iaload, 1, 4, 1, 0), (.aload_n 3, 1, 0, 0, 0)]
theorem ch_law_936 : ck_law b_law_936 936 = true := by decide +kernel
def b_law_953 : List wAn := [(.istore 5, 2, 0, 0, 0), (.aload_n 2, 1, 0, 0, 0), (.aload_n 0, 1, 0, 0, 0), (.iload 4, 2, 0, 0, 0), (.iconst 1, 1, 0, 0, 0), (.iadd, 1, 0, 0, 0), (.iaload, 1, 4, 1, 0), (.aload_n 0, 1, 0, 0, 0), (.iload 4, 2, 0, 0, 0), (.iconst 2, 1, 0, 0, 0), (.iadd, 1, 0, 0, 0), (.iaload, 1, 4, 1, 0), (.invokevirtual 144, 3, 16, 1507, 3), (.istore 6, 2, 0, 0, 0), (.aload_n 2, 1, 0, 0, 0), (.invokevirtual 97, 3, 1, 1507, 1), (.iload 5, 2, 0, 0, 0), (.if_icmp .eq 5, 3, 984, 0, 0), (.iconst 0, 1, 0, 0, 0), (.ireturn, 1, 0, 0, 0)]
theorem ch_law_953 : ck_law b_law_953 953 = true := by decide +kernel
def b_law_984 : List wAn := [(.iload 5, 2, 0, 0, 0), (.ifCond .ne 15, 3, 1001, 0, 0), (.aload_n 3, 1, 0, 0, 0), (.iconst 0, 1, 0, 0, 0), (.laload, 1, 0, 0, 0), (.iload 6, 2, 0, 0, 0), (.i2l, 1, 0, 0, 0), (.lcmp, 1, 0, 0, 0), (.ifCond .eq 5, 3, 1001, 0, 0), (.iconst 0, 1, 0, 0, 0), (.ireturn, 1, 0, 0, 0)]
theorem ch_law_984 : ck_law b_law_984 984 = true := by decide +kernel
def b_law_1001 : List wAn := [(.goto (750), 3, 1751, 0, 0)]
theorem ch_law_1001 : ck_law b_law_1001 1001 = true := by decide +kernel
def b_law_1004 : List wAn := [(.aload_n 1, 1, 0, 0, 0), (.aload_n 0, 1, 0, 0, 0), (.iload 4, 2, 0, 0, 0), (.iconst 1, 1, 0, 0, 0), (.iadd, 1, 0, 0, 0), (.iaload, 1, 4, 1, 0), (.aload_n 0, 1, 0, 0, 0), (.iload 4, 2, 0, 0, 0), (.iconst 2, 1, 0, 0, 0), (.iadd, 1, 0, 0, 0), (.iaload, 1, 4, 1, 0), (.aload_n 3, 1, 0, 0, 0)]
theorem ch_law_1004 : ck_law b_law_1004 1004 = true := by decide +kernel
def b_law_1021 : List wAn := [(.istore 5, 2, 0, 0, 0), (.aload_n 2, 1, 0, 0, 0), (.aload_n 0, 1, 0, 0, 0), (.iload 4, 2, 0, 0, 0), (.iconst 1, 1, 0, 0, 0), (.iadd, 1, 0, 0, 0), (.iaload, 1, 4, 1, 0), (.aload_n 0, 1, 0, 0, 0), (.iload 4, 2, 0, 0, 0), (.iconst 2, 1, 0, 0, 0), (.iadd, 1, 0, 0, 0), (.iaload, 1, 4, 1, 0), (.invokevirtual 147, 3, 17, 1507, 3), (.istore 6, 2, 0, 0, 0), (.aload_n 2, 1, 0, 0, 0), (.invokevirtual 97, 3, 1, 1507, 1), (.iload 5, 2, 0, 0, 0), (.if_icmp .eq 5, 3, 1052, 0, 0), (.iconst 0, 1, 0, 0, 0), (.ireturn, 1, 0, 0, 0)]
theorem ch_law_1021 : ck_law b_law_1021 1021 = true := by decide +kernel
def b_law_1052 : List wAn := [(.iload 5, 2, 0, 0, 0), (.ifCond .ne 15, 3, 1069, 0, 0), (.aload_n 3, 1, 0, 0, 0), (.iconst 0, 1, 0, 0, 0), (.laload, 1, 0, 0, 0), (.iload 6, 2, 0, 0, 0), (.i2l, 1, 0, 0, 0), (.lcmp, 1, 0, 0, 0), (.ifCond .eq 5, 3, 1069, 0, 0), (.iconst 0, 1, 0, 0, 0), (.ireturn, 1, 0, 0, 0)]
theorem ch_law_1052 : ck_law b_law_1052 1052 = true := by decide +kernel
def b_law_1069 : List wAn := [(.goto (682), 3, 1751, 0, 0)]
theorem ch_law_1069 : ck_law b_law_1069 1069 = true := by decide +kernel
def b_law_1072 : List wAn := [(.aload_n 1, 1, 0, 0, 0), (.aload_n 0, 1, 0, 0, 0), (.iload 4, 2, 0, 0, 0), (.iconst 1, 1, 0, 0, 0), (.iadd, 1, 0, 0, 0), (.iaload, 1, 4, 1, 0), (.aload_n 0, 1, 0, 0, 0), (.iload 4, 2, 0, 0, 0), (.iconst 2, 1, 0, 0, 0), (.iadd, 1, 0, 0, 0), (.iaload, 1, 4, 1, 0), (.aload_n 3, 1, 0, 0, 0)]
theorem ch_law_1072 : ck_law b_law_1072 1072 = true := by decide +kernel
def b_law_1089 : List wAn := [(.istore 5, 2, 0, 0, 0), (.aload_n 2, 1, 0, 0, 0), (.aload_n 0, 1, 0, 0, 0), (.iload 4, 2, 0, 0, 0), (.iconst 1, 1, 0, 0, 0), (.iadd, 1, 0, 0, 0), (.iaload, 1, 4, 1, 0), (.aload_n 0, 1, 0, 0, 0), (.iload 4, 2, 0, 0, 0), (.iconst 2, 1, 0, 0, 0), (.iadd, 1, 0, 0, 0), (.iaload, 1, 4, 1, 0), (.invokevirtual 150, 3, 18, 1507, 3), (.istore 6, 2, 0, 0, 0), (.aload_n 2, 1, 0, 0, 0), (.invokevirtual 97, 3, 1, 1507, 1), (.iload 5, 2, 0, 0, 0), (.if_icmp .eq 5, 3, 1120, 0, 0), (.iconst 0, 1, 0, 0, 0), (.ireturn, 1, 0, 0, 0)]
theorem ch_law_1089 : ck_law b_law_1089 1089 = true := by decide +kernel
def b_law_1120 : List wAn := [(.iload 5, 2, 0, 0, 0), (.ifCond .ne 15, 3, 1137, 0, 0), (.aload_n 3, 1, 0, 0, 0), (.iconst 0, 1, 0, 0, 0), (.laload, 1, 0, 0, 0), (.iload 6, 2, 0, 0, 0), (.i2l, 1, 0, 0, 0), (.lcmp, 1, 0, 0, 0), (.ifCond .eq 5, 3, 1137, 0, 0), (.iconst 0, 1, 0, 0, 0), (.ireturn, 1, 0, 0, 0)]
theorem ch_law_1120 : ck_law b_law_1120 1120 = true := by decide +kernel
def b_law_1137 : List wAn := [(.goto (614), 3, 1751, 0, 0)]
theorem ch_law_1137 : ck_law b_law_1137 1137 = true := by decide +kernel
def b_law_1140 : List wAn := [(.aload_n 1, 1, 0, 0, 0), (.aload_n 0, 1, 0, 0, 0), (.iload 4, 2, 0, 0, 0), (.iconst 1, 1, 0, 0, 0), (.iadd, 1, 0, 0, 0), (.iaload, 1, 4, 1, 0), (.aload_n 0, 1, 0, 0, 0), (.iload 4, 2, 0, 0, 0), (.iconst 2, 1, 0, 0, 0), (.iadd, 1, 0, 0, 0), (.iaload, 1, 4, 1, 0), (.aload_n 3, 1, 0, 0, 0)]
theorem ch_law_1140 : ck_law b_law_1140 1140 = true := by decide +kernel
def b_law_1157 : List wAn := [(.istore 5, 2, 0, 0, 0), (.aload_n 2, 1, 0, 0, 0), (.aload_n 0, 1, 0, 0, 0), (.iload 4, 2, 0, 0, 0), (.iconst 1, 1, 0, 0, 0), (.iadd, 1, 0, 0, 0), (.iaload, 1, 4, 1, 0), (.aload_n 0, 1, 0, 0, 0), (.iload 4, 2, 0, 0, 0), (.iconst 2, 1, 0, 0, 0), (.iadd, 1, 0, 0, 0), (.iaload, 1, 4, 1, 0), (.invokevirtual 153, 3, 19, 1507, 3), (.istore 6, 2, 0, 0, 0), (.aload_n 2, 1, 0, 0, 0), (.invokevirtual 97, 3, 1, 1507, 1), (.iload 5, 2, 0, 0, 0), (.if_icmp .eq 5, 3, 1188, 0, 0), (.iconst 0, 1, 0, 0, 0), (.ireturn, 1, 0, 0, 0)]
theorem ch_law_1157 : ck_law b_law_1157 1157 = true := by decide +kernel
def b_law_1188 : List wAn := [(.iload 5, 2, 0, 0, 0), (.ifCond .ne 15, 3, 1205, 0, 0), (.aload_n 3, 1, 0, 0, 0), (.iconst 0, 1, 0, 0, 0), (.laload, 1, 0, 0, 0), (.iload 6, 2, 0, 0, 0), (.i2l, 1, 0, 0, 0), (.lcmp, 1, 0, 0, 0), (.ifCond .eq 5, 3, 1205, 0, 0), (.iconst 0, 1, 0, 0, 0), (.ireturn, 1, 0, 0, 0)]
theorem ch_law_1188 : ck_law b_law_1188 1188 = true := by decide +kernel
def b_law_1205 : List wAn := [(.goto (546), 3, 1751, 0, 0)]
theorem ch_law_1205 : ck_law b_law_1205 1205 = true := by decide +kernel
def b_law_1208 : List wAn := [(.aload_n 1, 1, 0, 0, 0), (.aload_n 0, 1, 0, 0, 0), (.iload 4, 2, 0, 0, 0), (.iconst 1, 1, 0, 0, 0), (.iadd, 1, 0, 0, 0), (.iaload, 1, 4, 1, 0), (.aload_n 3, 1, 0, 0, 0)]
theorem ch_law_1208 : ck_law b_law_1208 1208 = true := by decide +kernel
def b_law_1219 : List wAn := [(.istore 5, 2, 0, 0, 0), (.aload_n 2, 1, 0, 0, 0), (.aload_n 0, 1, 0, 0, 0), (.iload 4, 2, 0, 0, 0), (.iconst 1, 1, 0, 0, 0), (.iadd, 1, 0, 0, 0), (.iaload, 1, 4, 1, 0), (.invokevirtual 156, 3, 20, 1507, 2), (.istore 6, 2, 0, 0, 0), (.aload_n 2, 1, 0, 0, 0), (.invokevirtual 97, 3, 1, 1507, 1), (.iload 5, 2, 0, 0, 0), (.if_icmp .eq 5, 3, 1244, 0, 0), (.iconst 0, 1, 0, 0, 0), (.ireturn, 1, 0, 0, 0)]
theorem ch_law_1219 : ck_law b_law_1219 1219 = true := by decide +kernel
def b_law_1244 : List wAn := [(.iload 5, 2, 0, 0, 0), (.ifCond .ne 15, 3, 1261, 0, 0), (.aload_n 3, 1, 0, 0, 0), (.iconst 0, 1, 0, 0, 0), (.laload, 1, 0, 0, 0), (.iload 6, 2, 0, 0, 0), (.i2l, 1, 0, 0, 0), (.lcmp, 1, 0, 0, 0), (.ifCond .eq 5, 3, 1261, 0, 0), (.iconst 0, 1, 0, 0, 0), (.ireturn, 1, 0, 0, 0)]
theorem ch_law_1244 : ck_law b_law_1244 1244 = true := by decide +kernel
def b_law_1261 : List wAn := [(.goto (490), 3, 1751, 0, 0)]
theorem ch_law_1261 : ck_law b_law_1261 1261 = true := by decide +kernel
def b_law_1264 : List wAn := [(.aload_n 1, 1, 0, 0, 0), (.aload_n 0, 1, 0, 0, 0), (.iload 4, 2, 0, 0, 0), (.iconst 1, 1, 0, 0, 0), (.iadd, 1, 0, 0, 0), (.iaload, 1, 4, 1, 0), (.aload_n 3, 1, 0, 0, 0)]
theorem ch_law_1264 : ck_law b_law_1264 1264 = true := by decide +kernel
def b_law_1275 : List wAn := [(.istore 5, 2, 0, 0, 0), (.aload_n 2, 1, 0, 0, 0), (.aload_n 0, 1, 0, 0, 0), (.iload 4, 2, 0, 0, 0), (.iconst 1, 1, 0, 0, 0), (.iadd, 1, 0, 0, 0), (.iaload, 1, 4, 1, 0), (.invokevirtual 159, 3, 21, 1507, 2), (.istore 6, 2, 0, 0, 0), (.aload_n 2, 1, 0, 0, 0), (.invokevirtual 97, 3, 1, 1507, 1), (.iload 5, 2, 0, 0, 0), (.if_icmp .eq 5, 3, 1300, 0, 0), (.iconst 0, 1, 0, 0, 0), (.ireturn, 1, 0, 0, 0)]
theorem ch_law_1275 : ck_law b_law_1275 1275 = true := by decide +kernel
def b_law_1300 : List wAn := [(.iload 5, 2, 0, 0, 0), (.ifCond .ne 15, 3, 1317, 0, 0), (.aload_n 3, 1, 0, 0, 0), (.iconst 0, 1, 0, 0, 0), (.laload, 1, 0, 0, 0), (.iload 6, 2, 0, 0, 0), (.i2l, 1, 0, 0, 0), (.lcmp, 1, 0, 0, 0), (.ifCond .eq 5, 3, 1317, 0, 0), (.iconst 0, 1, 0, 0, 0), (.ireturn, 1, 0, 0, 0)]
theorem ch_law_1300 : ck_law b_law_1300 1300 = true := by decide +kernel
def b_law_1317 : List wAn := [(.goto (434), 3, 1751, 0, 0)]
theorem ch_law_1317 : ck_law b_law_1317 1317 = true := by decide +kernel
def b_law_1320 : List wAn := [(.aload_n 1, 1, 0, 0, 0), (.aload_n 0, 1, 0, 0, 0), (.iload 4, 2, 0, 0, 0), (.iconst 1, 1, 0, 0, 0), (.iadd, 1, 0, 0, 0), (.iaload, 1, 4, 1, 0), (.aload_n 0, 1, 0, 0, 0), (.iload 4, 2, 0, 0, 0), (.iconst 2, 1, 0, 0, 0), (.iadd, 1, 0, 0, 0), (.iaload, 1, 4, 1, 0), (.aload_n 3, 1, 0, 0, 0)]
theorem ch_law_1320 : ck_law b_law_1320 1320 = true := by decide +kernel
def b_law_1337 : List wAn := [(.istore 5, 2, 0, 0, 0), (.aload_n 2, 1, 0, 0, 0), (.aload_n 0, 1, 0, 0, 0), (.iload 4, 2, 0, 0, 0), (.iconst 1, 1, 0, 0, 0), (.iadd, 1, 0, 0, 0), (.iaload, 1, 4, 1, 0), (.aload_n 0, 1, 0, 0, 0), (.iload 4, 2, 0, 0, 0), (.iconst 2, 1, 0, 0, 0), (.iadd, 1, 0, 0, 0), (.iaload, 1, 4, 1, 0), (.invokevirtual 162, 3, 22, 1507, 3), (.istore 6, 2, 0, 0, 0), (.aload_n 2, 1, 0, 0, 0), (.invokevirtual 97, 3, 1, 1507, 1), (.iload 5, 2, 0, 0, 0), (.if_icmp .eq 5, 3, 1368, 0, 0), (.iconst 0, 1, 0, 0, 0), (.ireturn, 1, 0, 0, 0)]
theorem ch_law_1337 : ck_law b_law_1337 1337 = true := by decide +kernel
def b_law_1368 : List wAn := [(.iload 5, 2, 0, 0, 0), (.ifCond .ne 15, 3, 1385, 0, 0), (.aload_n 3, 1, 0, 0, 0), (.iconst 0, 1, 0, 0, 0), (.laload, 1, 0, 0, 0), (.iload 6, 2, 0, 0, 0), (.i2l, 1, 0, 0, 0), (.lcmp, 1, 0, 0, 0), (.ifCond .eq 5, 3, 1385, 0, 0), (.iconst 0, 1, 0, 0, 0), (.ireturn, 1, 0, 0, 0)]
theorem ch_law_1368 : ck_law b_law_1368 1368 = true := by decide +kernel
def b_law_1385 : List wAn := [(.goto (366), 3, 1751, 0, 0)]
theorem ch_law_1385 : ck_law b_law_1385 1385 = true := by decide +kernel
def b_law_1388 : List wAn := [(.aload_n 1, 1, 0, 0, 0), (.aload_n 0, 1, 0, 0, 0), (.iload 4, 2, 0, 0, 0), (.iconst 1, 1, 0, 0, 0), (.iadd, 1, 0, 0, 0), (.iaload, 1, 4, 1, 0), (.aload_n 0, 1, 0, 0, 0), (.iload 4, 2, 0, 0, 0), (.iconst 2, 1, 0, 0, 0), (.iadd, 1, 0, 0, 0), (.iaload, 1, 4, 1, 0), (.aload_n 0, 1, 0, 0, 0), (.iload 4, 2, 0, 0, 0), (.iconst 3, 1, 0, 0, 0), (.iadd, 1, 0, 0, 0), (.iaload, 1, 4, 1, 0), (.aload_n 3, 1, 0, 0, 0)]
theorem ch_law_1388 : ck_law b_law_1388 1388 = true := by decide +kernel
def b_law_1411 : List wAn := [(.istore 5, 2, 0, 0, 0), (.aload_n 2, 1, 0, 0, 0), (.aload_n 0, 1, 0, 0, 0), (.iload 4, 2, 0, 0, 0), (.iconst 1, 1, 0, 0, 0), (.iadd, 1, 0, 0, 0), (.iaload, 1, 4, 1, 0), (.aload_n 0, 1, 0, 0, 0), (.iload 4, 2, 0, 0, 0), (.iconst 2, 1, 0, 0, 0), (.iadd, 1, 0, 0, 0), (.iaload, 1, 4, 1, 0), (.aload_n 0, 1, 0, 0, 0), (.iload 4, 2, 0, 0, 0), (.iconst 3, 1, 0, 0, 0), (.iadd, 1, 0, 0, 0), (.iaload, 1, 4, 1, 0), (.invokevirtual 166, 3, 23, 1507, 4), (.istore 6, 2, 0, 0, 0), (.aload_n 2, 1, 0, 0, 0), (.invokevirtual 97, 3, 1, 1507, 1), (.iload 5, 2, 0, 0, 0), (.if_icmp .eq 5, 3, 1448, 0, 0), (.iconst 0, 1, 0, 0, 0), (.ireturn, 1, 0, 0, 0)]
theorem ch_law_1411 : ck_law b_law_1411 1411 = true := by decide +kernel
def b_law_1448 : List wAn := [(.iload 5, 2, 0, 0, 0), (.ifCond .ne 15, 3, 1465, 0, 0), (.aload_n 3, 1, 0, 0, 0), (.iconst 0, 1, 0, 0, 0), (.laload, 1, 0, 0, 0), (.iload 6, 2, 0, 0, 0), (.i2l, 1, 0, 0, 0), (.lcmp, 1, 0, 0, 0), (.ifCond .eq 5, 3, 1465, 0, 0), (.iconst 0, 1, 0, 0, 0), (.ireturn, 1, 0, 0, 0)]
theorem ch_law_1448 : ck_law b_law_1448 1448 = true := by decide +kernel
def b_law_1465 : List wAn := [(.goto (286), 3, 1751, 0, 0)]
theorem ch_law_1465 : ck_law b_law_1465 1465 = true := by decide +kernel
def b_law_1468 : List wAn := [(.aload_n 1, 1, 0, 0, 0), (.aload_n 0, 1, 0, 0, 0), (.iload 4, 2, 0, 0, 0), (.iconst 1, 1, 0, 0, 0), (.iadd, 1, 0, 0, 0), (.iaload, 1, 4, 1, 0), (.aload_n 0, 1, 0, 0, 0), (.iload 4, 2, 0, 0, 0), (.iconst 2, 1, 0, 0, 0), (.iadd, 1, 0, 0, 0), (.iaload, 1, 4, 1, 0), (.aload_n 0, 1, 0, 0, 0), (.iload 4, 2, 0, 0, 0), (.iconst 3, 1, 0, 0, 0), (.iadd, 1, 0, 0, 0), (.iaload, 1, 4, 1, 0), (.aload_n 0, 1, 0, 0, 0), (.iload 4, 2, 0, 0, 0), (.iconst 4, 1, 0, 0, 0), (.iadd, 1, 0, 0, 0), (.iaload, 1, 4, 1, 0), (.aload_n 3, 1, 0, 0, 0)]
theorem ch_law_1468 : ck_law b_law_1468 1468 = true := by decide +kernel
def b_law_1497 : List wAn := [(.istore 5, 2, 0, 0, 0), (.aload_n 2, 1, 0, 0, 0), (.aload_n 0, 1, 0, 0, 0), (.iload 4, 2, 0, 0, 0), (.iconst 1, 1, 0, 0, 0), (.iadd, 1, 0, 0, 0), (.iaload, 1, 4, 1, 0), (.aload_n 0, 1, 0, 0, 0), (.iload 4, 2, 0, 0, 0), (.iconst 2, 1, 0, 0, 0), (.iadd, 1, 0, 0, 0), (.iaload, 1, 4, 1, 0), (.aload_n 0, 1, 0, 0, 0), (.iload 4, 2, 0, 0, 0), (.iconst 3, 1, 0, 0, 0), (.iadd, 1, 0, 0, 0), (.iaload, 1, 4, 1, 0), (.aload_n 0, 1, 0, 0, 0), (.iload 4, 2, 0, 0, 0), (.iconst 4, 1, 0, 0, 0), (.iadd, 1, 0, 0, 0), (.iaload, 1, 4, 1, 0), (.invokevirtual 169, 3, 24, 1507, 5), (.istore 6, 2, 0, 0, 0), (.aload_n 2, 1, 0, 0, 0), (.invokevirtual 97, 3, 1, 1507, 1), (.iload 5, 2, 0, 0, 0), (.if_icmp .eq 5, 3, 1540, 0, 0), (.iconst 0, 1, 0, 0, 0), (.ireturn, 1, 0, 0, 0)]
theorem ch_law_1497 : ck_law b_law_1497 1497 = true := by decide +kernel
def b_law_1540 : List wAn := [(.iload 5, 2, 0, 0, 0), (.ifCond .ne 15, 3, 1557, 0, 0), (.aload_n 3, 1, 0, 0, 0), (.iconst 0, 1, 0, 0, 0), (.laload, 1, 0, 0, 0), (.iload 6, 2, 0, 0, 0), (.i2l, 1, 0, 0, 0), (.lcmp, 1, 0, 0, 0), (.ifCond .eq 5, 3, 1557, 0, 0), (.iconst 0, 1, 0, 0, 0), (.ireturn, 1, 0, 0, 0)]
theorem ch_law_1540 : ck_law b_law_1540 1540 = true := by decide +kernel
def b_law_1557 : List wAn := [(.goto (194), 3, 1751, 0, 0)]
theorem ch_law_1557 : ck_law b_law_1557 1557 = true := by decide +kernel
def b_law_1560 : List wAn := [(.aload_n 1, 1, 0, 0, 0), (.aload_n 0, 1, 0, 0, 0), (.iload 4, 2, 0, 0, 0), (.iconst 1, 1, 0, 0, 0), (.iadd, 1, 0, 0, 0), (.iaload, 1, 4, 1, 0), (.aload_n 3, 1, 0, 0, 0)]
theorem ch_law_1560 : ck_law b_law_1560 1560 = true := by decide +kernel
def b_law_1571 : List wAn := [(.istore 5, 2, 0, 0, 0), (.aload_n 2, 1, 0, 0, 0), (.aload_n 0, 1, 0, 0, 0), (.iload 4, 2, 0, 0, 0), (.iconst 1, 1, 0, 0, 0), (.iadd, 1, 0, 0, 0), (.iaload, 1, 4, 1, 0), (.invokevirtual 172, 3, 25, 1507, 2), (.istore 6, 2, 0, 0, 0), (.aload_n 2, 1, 0, 0, 0), (.invokevirtual 97, 3, 1, 1507, 1), (.iload 5, 2, 0, 0, 0), (.if_icmp .eq 5, 3, 1596, 0, 0), (.iconst 0, 1, 0, 0, 0), (.ireturn, 1, 0, 0, 0)]
theorem ch_law_1571 : ck_law b_law_1571 1571 = true := by decide +kernel
def b_law_1596 : List wAn := [(.iload 5, 2, 0, 0, 0), (.ifCond .ne 15, 3, 1613, 0, 0), (.aload_n 3, 1, 0, 0, 0), (.iconst 0, 1, 0, 0, 0), (.laload, 1, 0, 0, 0), (.iload 6, 2, 0, 0, 0), (.i2l, 1, 0, 0, 0), (.lcmp, 1, 0, 0, 0), (.ifCond .eq 5, 3, 1613, 0, 0), (.iconst 0, 1, 0, 0, 0), (.ireturn, 1, 0, 0, 0)]
theorem ch_law_1596 : ck_law b_law_1596 1596 = true := by decide +kernel
def b_law_1613 : List wAn := [(.goto (138), 3, 1751, 0, 0)]
theorem ch_law_1613 : ck_law b_law_1613 1613 = true := by decide +kernel
def b_law_1616 : List wAn := [(.aload_n 1, 1, 0, 0, 0), (.aload_n 0, 1, 0, 0, 0), (.iload 4, 2, 0, 0, 0), (.iconst 1, 1, 0, 0, 0), (.iadd, 1, 0, 0, 0), (.iaload, 1, 4, 1, 0), (.aload_n 0, 1, 0, 0, 0), (.iload 4, 2, 0, 0, 0), (.iconst 2, 1, 0, 0, 0), (.iadd, 1, 0, 0, 0), (.iaload, 1, 4, 1, 0), (.aload_n 0, 1, 0, 0, 0), (.iload 4, 2, 0, 0, 0), (.iconst 3, 1, 0, 0, 0), (.iadd, 1, 0, 0, 0), (.iaload, 1, 4, 1, 0), (.aload_n 3, 1, 0, 0, 0)]
theorem ch_law_1616 : ck_law b_law_1616 1616 = true := by decide +kernel
def b_law_1639 : List wAn := [(.istore 5, 2, 0, 0, 0), (.aload_n 2, 1, 0, 0, 0), (.aload_n 0, 1, 0, 0, 0), (.iload 4, 2, 0, 0, 0), (.iconst 1, 1, 0, 0, 0), (.iadd, 1, 0, 0, 0), (.iaload, 1, 4, 1, 0), (.aload_n 0, 1, 0, 0, 0), (.iload 4, 2, 0, 0, 0), (.iconst 2, 1, 0, 0, 0), (.iadd, 1, 0, 0, 0), (.iaload, 1, 4, 1, 0), (.aload_n 0, 1, 0, 0, 0), (.iload 4, 2, 0, 0, 0), (.iconst 3, 1, 0, 0, 0), (.iadd, 1, 0, 0, 0), (.iaload, 1, 4, 1, 0), (.invokevirtual 175, 3, 26, 1507, 4), (.istore 6, 2, 0, 0, 0), (.aload_n 2, 1, 0, 0, 0), (.invokevirtual 97, 3, 1, 1507, 1), (.iload 5, 2, 0, 0, 0), (.if_icmp .eq 5, 3, 1676, 0, 0), (.iconst 0, 1, 0, 0, 0), (.ireturn, 1, 0, 0, 0)]
theorem ch_law_1639 : ck_law b_law_1639 1639 = true := by decide +kernel
def b_law_1676 : List wAn := [(.iload 5, 2, 0, 0, 0), (.ifCond .ne 15, 3, 1693, 0, 0), (.aload_n 3, 1, 0, 0, 0), (.iconst 0, 1, 0, 0, 0), (.laload, 1, 0, 0, 0), (.iload 6, 2, 0, 0, 0), (.i2l, 1, 0, 0, 0), (.lcmp, 1, 0, 0, 0), (.ifCond .eq 5, 3, 1693, 0, 0), (.iconst 0, 1, 0, 0, 0), (.ireturn, 1, 0, 0, 0)]
theorem ch_law_1676 : ck_law b_law_1676 1676 = true := by decide +kernel
def b_law_1693 : List wAn := [(.goto (58), 3, 1751, 0, 0)]
theorem ch_law_1693 : ck_law b_law_1693 1693 = true := by decide +kernel
end LWD
