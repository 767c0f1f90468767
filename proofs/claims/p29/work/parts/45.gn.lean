section LGN
def o_K_soonest : List Cond := []
theorem oi_K_soonest : ∀ w ∈ o_K_soonest, w ∈ wGT := wGT_of _ [] (by decide +kernel) (by decide +kernel)
def ct_K_soonest : List (Instr × Nat) := []
abbrev rm_K_soonest : Room := { frames := 0, cells := 0, slots := 0, locals := 0 }
def b_K_soonest_0 : List wAn := [(.bipush 8, 2, 0, 0, 0)]
def b_K_soonest_4 : List wAn := [(.astore_n 3, 1, 0, 0, 0), (.iconst 0, 1, 0, 0, 0), (.istore 4, 2, 0, 0, 0)]
def b_K_soonest_8 : List wAn := [(.iload 4, 2, 0, 0, 0), (.bipush 8, 2, 0, 0, 0), (.if_icmp .ge 21, 3, 33, 0, 0), (.aload_n 3, 1, 0, 0, 0), (.iload 4, 2, 0, 0, 0), (.aload_n 0, 1, 0, 0, 0), (.iload_n 1, 1, 0, 0, 0), (.iload 4, 2, 0, 0, 0), (.iload_n 2, 1, 0, 0, 0)]
def b_K_soonest_26 : List wAn := [(.iastore, 1, 14, 0, 0), (.iinc 4 1, 3, 0, 0, 0), (.goto (-22), 3, 8, 0, 0)]
def b_K_soonest_33 : List wAn := [(.iconst 0, 1, 0, 0, 0), (.istore 4, 2, 0, 0, 0)]
def b_K_soonest_36 : List wAn := [(.iload 4, 2, 0, 0, 0), (.bipush 8, 2, 0, 0, 0), (.if_icmp .ge 35, 3, 75, 0, 0), (.aload_n 3, 1, 0, 0, 0), (.iload 4, 2, 0, 0, 0), (.iaload, 1, 14, 0, 0), (.iload 4, 2, 0, 0, 0), (.iload_n 1, 1, 0, 0, 0), (.if_icmp .ne 7, 3, 57, 0, 0), (.iload_n 2, 1, 0, 0, 0), (.goto 10, 3, 64, 0, 0)]
def b_K_soonest_57 : List wAn := [(.aload_n 0, 1, 0, 0, 0), (.aload_n 3, 1, 0, 0, 0), (.iload 4, 2, 0, 0, 0)]
def b_K_soonest_64 : List wAn := [(.if_icmp .eq 5, 3, 69, 0, 0), (.iconst 0, 1, 0, 0, 0), (.ireturn, 1, 0, 0, 0)]
def b_K_soonest_69 : List wAn := [(.iinc 4 1, 3, 0, 0, 0), (.goto (-36), 3, 36, 0, 0)]
def b_K_soonest_75 : List wAn := [(.iconst 1, 1, 0, 0, 0), (.ireturn, 1, 0, 0, 0)]
def q_K_soonest : List (Nat × List wAn) := [(0, b_K_soonest_0), (4, b_K_soonest_4), (8, b_K_soonest_8), (26, b_K_soonest_26), (33, b_K_soonest_33), (36, b_K_soonest_36), (57, b_K_soonest_57), (64, b_K_soonest_64), (69, b_K_soonest_69), (75, b_K_soonest_75)]
abbrev ck_K_soonest : List wAn → Nat → Bool := w_ckB o_K_soonest RL vwCl 5 cL_soonest ct_K_soonest
theorem cq_K_soonest : q_K_soonest.all (fun q => ck_K_soonest q.2 q.1) = true := by decide +kernel
theorem ch_K_soonest_0 : ck_K_soonest b_K_soonest_0 0 = true := List.all_eq_true.mp cq_K_soonest (0, b_K_soonest_0) (List.mem_of_getElem? (i := 0) rfl)
theorem ch_K_soonest_4 : ck_K_soonest b_K_soonest_4 4 = true := List.all_eq_true.mp cq_K_soonest (4, b_K_soonest_4) (List.mem_of_getElem? (i := 1) rfl)
theorem ch_K_soonest_8 : ck_K_soonest b_K_soonest_8 8 = true := List.all_eq_true.mp cq_K_soonest (8, b_K_soonest_8) (List.mem_of_getElem? (i := 2) rfl)
theorem ch_K_soonest_26 : ck_K_soonest b_K_soonest_26 26 = true := List.all_eq_true.mp cq_K_soonest (26, b_K_soonest_26) (List.mem_of_getElem? (i := 3) rfl)
theorem ch_K_soonest_33 : ck_K_soonest b_K_soonest_33 33 = true := List.all_eq_true.mp cq_K_soonest (33, b_K_soonest_33) (List.mem_of_getElem? (i := 4) rfl)
theorem ch_K_soonest_36 : ck_K_soonest b_K_soonest_36 36 = true := List.all_eq_true.mp cq_K_soonest (36, b_K_soonest_36) (List.mem_of_getElem? (i := 5) rfl)
theorem ch_K_soonest_57 : ck_K_soonest b_K_soonest_57 57 = true := List.all_eq_true.mp cq_K_soonest (57, b_K_soonest_57) (List.mem_of_getElem? (i := 6) rfl)
theorem ch_K_soonest_64 : ck_K_soonest b_K_soonest_64 64 = true := List.all_eq_true.mp cq_K_soonest (64, b_K_soonest_64) (List.mem_of_getElem? (i := 7) rfl)
theorem ch_K_soonest_69 : ck_K_soonest b_K_soonest_69 69 = true := List.all_eq_true.mp cq_K_soonest (69, b_K_soonest_69) (List.mem_of_getElem? (i := 8) rfl)
theorem ch_K_soonest_75 : ck_K_soonest b_K_soonest_75 75 = true := List.all_eq_true.mp cq_K_soonest (75, b_K_soonest_75) (List.mem_of_getElem? (i := 9) rfl)
def o_K_law : List Cond := [.methodLink RL 91 yL_cell, .static yL_cell, .initialized RL, .code yL_cell cL_cell 2 (some .int), .methodLink RL 15 yL_low, .static yL_low, .code yL_low cL_low 2 (some .int)]
theorem oi_K_law : ∀ w ∈ o_K_law, w ∈ wGT := wGT_of _ [126, 127, 18, 128, 130, 131, 132] (by decide +kernel) (by decide +kernel)
def ct_K_law : List (Instr × Nat) := [(.invokestatic 91, 2), (.invokestatic 15, 2)]
abbrev rm_K_law : Room := { frames := 1, cells := 0, slots := 0, locals := 21 }
def b_K_law_7 : List wAn := [(.astore_n 1, 1, 0, 0, 0), (.iconst 0, 1, 0, 0, 0), (.istore_n 2, 1, 0, 0, 0)]
def b_K_law_10 : List wAn := [(.iload_n 2, 1, 0, 0, 0), (.bipush 7, 2, 0, 0, 0), (.if_icmp .ge 34, 3, 47, 0, 0), (.aload_n 1, 1, 0, 0, 0), (.aload_n 0, 1, 0, 0, 0), (.iconst 2, 1, 0, 0, 0), (.iload_n 2, 1, 0, 0, 0), (.imul, 1, 0, 0, 0), (.invokestatic 91, 3, 0, 1, 2), (.aload_n 0, 1, 0, 0, 0), (.iconst 2, 1, 0, 0, 0), (.iload_n 2, 1, 0, 0, 0), (.imul, 1, 0, 0, 0), (.iconst 1, 1, 0, 0, 0), (.iadd, 1, 0, 0, 0), (.invokestatic 91, 3, 0, 1, 2)]
def b_K_law_36 : List wAn := [(.ifCond .ne 5, 3, 41, 0, 0), (.iconst 0, 1, 0, 0, 0), (.ireturn, 1, 0, 0, 0)]
def b_K_law_41 : List wAn := [(.iinc 2 1, 3, 0, 0, 0), (.goto (-34), 3, 10, 0, 0)]
def b_K_law_47 : List wAn := [(.iconst 0, 1, 0, 0, 0), (.istore_n 2, 1, 0, 0, 0)]
def b_K_law_49 : List wAn := [(.iload_n 2, 1, 0, 0, 0), (.bipush 10, 2, 0, 0, 0), (.if_icmp .ge 194, 3, 246, 0, 0), (.aload_n 0, 1, 0, 0, 0), (.bipush 14, 2, 0, 0, 0), (.iconst 2, 1, 0, 0, 0), (.iload_n 2, 1, 0, 0, 0), (.imul, 1, 0, 0, 0), (.iadd, 1, 0, 0, 0), (.invokestatic 91, 3, 0, 1, 2), (.istore_n 3, 1, 0, 0, 0), (.aload_n 0, 1, 0, 0, 0), (.bipush 15, 2, 0, 0, 0), (.iconst 2, 1, 0, 0, 0), (.iload_n 2, 1, 0, 0, 0), (.imul, 1, 0, 0, 0), (.iadd, 1, 0, 0, 0), (.invokestatic 91, 3, 0, 1, 2), (.istore 4, 2, 0, 0, 0), (.aload_n 1, 1, 0, 0, 0), (.iload_n 3, 1, 0, 0, 0), (.iload 4, 2, 0, 0, 0)]
def b_K_law_85 : List wAn := [(.ifCond .ne 5, 3, 90, 0, 0), (.iconst 0, 1, 0, 0, 0), (.ireturn, 1, 0, 0, 0)]
def b_K_law_90 : List wAn := [(.iload_n 3, 1, 0, 0, 0), (.bipush 7, 2, 0, 0, 0), (.ishr, 1, 0, 0, 0), (.bipush 6, 2, 0, 0, 0), (.invokestatic 15, 3, 1, 1, 2), (.istore 5, 2, 0, 0, 0), (.iload 4, 2, 0, 0, 0), (.bipush 7, 2, 0, 0, 0), (.ishr, 1, 0, 0, 0), (.bipush 6, 2, 0, 0, 0), (.invokestatic 15, 3, 1, 1, 2), (.istore 6, 2, 0, 0, 0), (.iload_n 3, 1, 0, 0, 0), (.bipush 10, 2, 0, 0, 0), (.ishr, 1, 0, 0, 0), (.iload 4, 2, 0, 0, 0), (.iconst 3, 1, 0, 0, 0), (.invokestatic 15, 3, 1, 1, 2), (.ifCond .ne 9, 3, 132, 0, 0), (.sipush 1440, 3, 0, 0, 0), (.goto 6, 3, 135, 0, 0)]
def b_K_law_132 : List wAn := [(.sipush 300, 3, 0, 0, 0)]
def b_K_law_135 : List wAn := [(.invokestatic 15, 3, 1, 1, 2), (.istore 7, 2, 0, 0, 0), (.iload 7, 2, 0, 0, 0), (.iload 4, 2, 0, 0, 0), (.bipush 10, 2, 0, 0, 0), (.ishr, 1, 0, 0, 0), (.sipush 1540, 3, 0, 0, 0), (.iload 7, 2, 0, 0, 0), (.isub, 1, 0, 0, 0), (.invokestatic 15, 3, 1, 1, 2), (.iadd, 1, 0, 0, 0), (.istore 8, 2, 0, 0, 0), (.aload_n 1, 1, 0, 0, 0), (.iload_n 3, 1, 0, 0, 0), (.iload 4, 2, 0, 0, 0), (.ixor, 1, 0, 0, 0)]
def b_K_law_167 : List wAn := [(.ifCond .eq 42, 3, 209, 0, 0), (.aload_n 1, 1, 0, 0, 0), (.iload 5, 2, 0, 0, 0), (.iload 7, 2, 0, 0, 0)]
def b_K_law_178 : List wAn := [(.ifCond .eq 31, 3, 209, 0, 0), (.aload_n 1, 1, 0, 0, 0), (.iload 5, 2, 0, 0, 0), (.iload 6, 2, 0, 0, 0), (.iload 7, 2, 0, 0, 0), (.iload 8, 2, 0, 0, 0)]
def b_K_law_193 : List wAn := [(.ifCond .eq 16, 3, 209, 0, 0), (.aload_n 1, 1, 0, 0, 0), (.iload 5, 2, 0, 0, 0), (.iload 6, 2, 0, 0, 0), (.iload 8, 2, 0, 0, 0)]
def b_K_law_206 : List wAn := [(.ifCond .ne 5, 3, 211, 0, 0)]
def b_K_law_209 : List wAn := [(.iconst 0, 1, 0, 0, 0), (.ireturn, 1, 0, 0, 0)]
def b_K_law_211 : List wAn := [(.iload_n 2, 1, 0, 0, 0), (.iconst 5, 1, 0, 0, 0), (.irem, 1, 0, 0, 0), (.iconst 4, 1, 0, 0, 0), (.if_icmp .ne 25, 3, 240, 0, 0), (.aload_n 1, 1, 0, 0, 0), (.iload 4, 2, 0, 0, 0), (.iconst 4, 1, 0, 0, 0), (.invokestatic 15, 3, 1, 1, 2)]
def b_K_law_228 : List wAn := [(.ifCond .eq 10, 3, 238, 0, 0), (.aload_n 1, 1, 0, 0, 0)]
def b_K_law_235 : List wAn := [(.ifCond .ne 5, 3, 240, 0, 0)]
def b_K_law_238 : List wAn := [(.iconst 0, 1, 0, 0, 0), (.ireturn, 1, 0, 0, 0)]
def b_K_law_240 : List wAn := [(.iinc 2 1, 3, 0, 0, 0), (.goto (-194), 3, 49, 0, 0)]
def b_K_law_246 : List wAn := [(.iconst 1, 1, 0, 0, 0), (.ireturn, 1, 0, 0, 0)]
def q_K_law : List (Nat × List wAn) := [(7, b_K_law_7), (10, b_K_law_10), (36, b_K_law_36), (41, b_K_law_41), (47, b_K_law_47), (49, b_K_law_49), (85, b_K_law_85), (90, b_K_law_90), (132, b_K_law_132), (135, b_K_law_135), (167, b_K_law_167), (178, b_K_law_178), (193, b_K_law_193), (206, b_K_law_206), (209, b_K_law_209), (211, b_K_law_211), (228, b_K_law_228), (235, b_K_law_235), (238, b_K_law_238), (240, b_K_law_240), (246, b_K_law_246)]
abbrev ck_K_law : List wAn → Nat → Bool := w_ckB o_K_law RL vwCl 9 cL_law ct_K_law
theorem cq_K_law : q_K_law.all (fun q => ck_K_law q.2 q.1) = true := by decide +kernel
theorem ch_K_law_7 : ck_K_law b_K_law_7 7 = true := List.all_eq_true.mp cq_K_law (7, b_K_law_7) (List.mem_of_getElem? (i := 0) rfl)
theorem ch_K_law_10 : ck_K_law b_K_law_10 10 = true := List.all_eq_true.mp cq_K_law (10, b_K_law_10) (List.mem_of_getElem? (i := 1) rfl)
theorem ch_K_law_36 : ck_K_law b_K_law_36 36 = true := List.all_eq_true.mp cq_K_law (36, b_K_law_36) (List.mem_of_getElem? (i := 2) rfl)
theorem ch_K_law_41 : ck_K_law b_K_law_41 41 = true := List.all_eq_true.mp cq_K_law (41, b_K_law_41) (List.mem_of_getElem? (i := 3) rfl)
theorem ch_K_law_47 : ck_K_law b_K_law_47 47 = true := List.all_eq_true.mp cq_K_law (47, b_K_law_47) (List.mem_of_getElem? (i := 4) rfl)
theorem ch_K_law_49 : ck_K_law b_K_law_49 49 = true := List.all_eq_true.mp cq_K_law (49, b_K_law_49) (List.mem_of_getElem? (i := 5) rfl)
theorem ch_K_law_85 : ck_K_law b_K_law_85 85 = true := List.all_eq_true.mp cq_K_law (85, b_K_law_85) (List.mem_of_getElem? (i := 6) rfl)
theorem ch_K_law_90 : ck_K_law b_K_law_90 90 = true := List.all_eq_true.mp cq_K_law (90, b_K_law_90) (List.mem_of_getElem? (i := 7) rfl)
theorem ch_K_law_132 : ck_K_law b_K_law_132 132 = true := List.all_eq_true.mp cq_K_law (132, b_K_law_132) (List.mem_of_getElem? (i := 8) rfl)
theorem ch_K_law_135 : ck_K_law b_K_law_135 135 = true := List.all_eq_true.mp cq_K_law (135, b_K_law_135) (List.mem_of_getElem? (i := 9) rfl)
theorem ch_K_law_167 : ck_K_law b_K_law_167 167 = true := List.all_eq_true.mp cq_K_law (167, b_K_law_167) (List.mem_of_getElem? (i := 10) rfl)
theorem ch_K_law_178 : ck_K_law b_K_law_178 178 = true := List.all_eq_true.mp cq_K_law (178, b_K_law_178) (List.mem_of_getElem? (i := 11) rfl)
theorem ch_K_law_193 : ck_K_law b_K_law_193 193 = true := List.all_eq_true.mp cq_K_law (193, b_K_law_193) (List.mem_of_getElem? (i := 12) rfl)
theorem ch_K_law_206 : ck_K_law b_K_law_206 206 = true := List.all_eq_true.mp cq_K_law (206, b_K_law_206) (List.mem_of_getElem? (i := 13) rfl)
theorem ch_K_law_209 : ck_K_law b_K_law_209 209 = true := List.all_eq_true.mp cq_K_law (209, b_K_law_209) (List.mem_of_getElem? (i := 14) rfl)
theorem ch_K_law_211 : ck_K_law b_K_law_211 211 = true := List.all_eq_true.mp cq_K_law (211, b_K_law_211) (List.mem_of_getElem? (i := 15) rfl)
theorem ch_K_law_228 : ck_K_law b_K_law_228 228 = true := List.all_eq_true.mp cq_K_law (228, b_K_law_228) (List.mem_of_getElem? (i := 16) rfl)
theorem ch_K_law_235 : ck_K_law b_K_law_235 235 = true := List.all_eq_true.mp cq_K_law (235, b_K_law_235) (List.mem_of_getElem? (i := 17) rfl)
theorem ch_K_law_238 : ck_K_law b_K_law_238 238 = true := List.all_eq_true.mp cq_K_law (238, b_K_law_238) (List.mem_of_getElem? (i := 18) rfl)
theorem ch_K_law_240 : ck_K_law b_K_law_240 240 = true := List.all_eq_true.mp cq_K_law (240, b_K_law_240) (List.mem_of_getElem? (i := 19) rfl)
theorem ch_K_law_246 : ck_K_law b_K_law_246 246 = true := List.all_eq_true.mp cq_K_law (246, b_K_law_246) (List.mem_of_getElem? (i := 20) rfl)
end LGN
