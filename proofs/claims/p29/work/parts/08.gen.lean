section WGEN
def o_X3_ferry : List Cond := [.fieldLink RX3 12 RX3 "sea" "LTideFares$Sea;", .methodLink RX3 41 yX3_checkIsland, .static yX3_checkIsland, .initialized RX3, .code yX3_checkIsland cX3_checkIsland 1 none, .methodLink RX3 45 yX3_checkArgument, .static yX3_checkArgument, .code yX3_checkArgument cX3_checkArgument 1 none, .methodLink RX3 49 yX3_checkFerryNumber, .static yX3_checkFerryNumber, .code yX3_checkFerryNumber cX3_checkFerryNumber 2 none, .methodLink RX3 53 yX1_ferryCount, .instanceMethod yX1_ferryCount, .selects RX1 yX1_ferryCount yX1_ferryCount, .initialized RX1, .code yX1_ferryCount cX1_ferryCount 1 (some .int), .methodLink RX3 57 yX3_checkState, .static yX3_checkState, .code yX3_checkState cX3_checkState 1 none, .methodLink RX3 60 yX3_save, .instanceMethod yX3_save, .selects RX3 yX3_save yX3_save, .code yX3_save cX3_save 1 none, .methodLink RX3 63 yX1_tell, .instanceMethod yX1_tell, .selects RX1 yX1_tell yX1_tell, .code yX1_tell cX1_tell 9 none] ++ wsX30
theorem oi_X3_ferry : ∀ w ∈ o_X3_ferry, w ∈ wGT := wGT_of _ [107, 235, 236, 19, 237, 144, 145, 146, 257, 258, 259, 219, 220, 221, 20, 222, 264, 265, 266, 283, 285, 2, 286, 294, 295, 296, 297, 113, 115, 117, 119, 121, 123] (by decide +kernel) (by decide +kernel)
def ct_X3_ferry : List (Instr × Nat) := [(.invokestatic 41, 1), (.invokestatic 45, 1), (.invokestatic 49, 2), (.invokevirtual 53, 1), (.invokestatic 57, 1), (.invokevirtual 60, 1), (.invokevirtual 63, 8)]
abbrev rm_X3_ferry : Room := { frames := 8, cells := 1, slots := 6, locals := 141 }
def b_X3_ferry_0 : List wAn := [(.iload_n 1, 1, 0, 0, 0), (.invokestatic 41, 3, 0, 1, 1), (.iload_n 2, 1, 0, 0, 0), (.invokestatic 41, 3, 0, 1, 1), (.iload_n 1, 1, 0, 0, 0), (.iload_n 2, 1, 0, 0, 0), (.if_icmp .eq 7, 3, 17, 0, 0), (.iconst 1, 1, 0, 0, 0), (.goto 4, 3, 18, 0, 0)]
def b_X3_ferry_17 : List wAn := [(.iconst 0, 1, 0, 0, 0)]
def b_X3_ferry_18 : List wAn := [(.invokestatic 45, 3, 1, 1, 1), (.iconst 2, 1, 0, 0, 0), (.iload_n 3, 1, 0, 0, 0), (.invokestatic 49, 3, 2, 1, 2), (.iconst 3, 1, 0, 0, 0), (.iload 4, 2, 0, 0, 0), (.invokestatic 49, 3, 2, 1, 2), (.iconst 4, 1, 0, 0, 0), (.iload 5, 2, 0, 0, 0), (.invokestatic 49, 3, 2, 1, 2), (.iconst 5, 1, 0, 0, 0), (.iload 6, 2, 0, 0, 0), (.invokestatic 49, 3, 2, 1, 2), (.aload_n 0, 1, 0, 0, 0), (.getfield 12, 3, 0, 3, 0), (.invokevirtual 53, 3, 3, 1102, 1), (.bipush 14, 2, 0, 0, 0), (.if_icmp .ge 7, 3, 60, 0, 0), (.iconst 1, 1, 0, 0, 0), (.goto 4, 3, 61, 0, 0)]
def b_X3_ferry_60 : List wAn := [(.iconst 0, 1, 0, 0, 0)]
def b_X3_ferry_61 : List wAn := [(.invokestatic 57, 3, 4, 1, 1), (.aload_n 0, 1, 0, 0, 0), (.invokevirtual 60, 3, 5, 0, 1), (.aload_n 0, 1, 0, 0, 0), (.getfield 12, 3, 0, 3, 0), (.iload_n 1, 1, 0, 0, 0), (.iload_n 2, 1, 0, 0, 0), (.iload_n 3, 1, 0, 0, 0), (.iload 4, 2, 0, 0, 0), (.iload 5, 2, 0, 0, 0), (.iload 6, 2, 0, 0, 0), (.iconst 0, 1, 0, 0, 0), (.invokevirtual 63, 3, 6, 1102, 8), (.aload_n 0, 1, 0, 0, 0), (.getfield 12, 3, 0, 3, 0), (.invokevirtual 53, 3, 3, 1102, 1), (.iconst 1, 1, 0, 0, 0), (.isub, 1, 0, 0, 0), (.ireturn, 1, 0, 0, 0)]
def q_X3_ferry : List (Nat × List wAn) := [(0, b_X3_ferry_0), (17, b_X3_ferry_17), (18, b_X3_ferry_18), (60, b_X3_ferry_60), (61, b_X3_ferry_61)]
abbrev ck_X3_ferry : List wAn → Nat → Bool := w_ckB o_X3_ferry RX3 vwCl 7 cX3_ferry ct_X3_ferry
theorem cq_X3_ferry : q_X3_ferry.all (fun q => ck_X3_ferry q.2 q.1) = true := by decide +kernel
def o_X3_drop : List Cond := [.fieldLink RX3 12 RX3 "sea" "LTideFares$Sea;", .methodLink RX3 67 yX3_checkFerry, .instanceMethod yX3_checkFerry, .selects RX3 yX3_checkFerry yX3_checkFerry, .initialized RX3, .code yX3_checkFerry cX3_checkFerry 2 none, .methodLink RX3 60 yX3_save, .instanceMethod yX3_save, .selects RX3 yX3_save yX3_save, .code yX3_save cX3_save 1 none, .methodLink RX3 70 yX1_forget, .instanceMethod yX1_forget, .selects RX1 yX1_forget yX1_forget, .initialized RX1, .code yX1_forget cX1_forget 4 none, .methodLink RX3 53 yX1_ferryCount, .instanceMethod yX1_ferryCount, .selects RX1 yX1_ferryCount yX1_ferryCount, .code yX1_ferryCount cX1_ferryCount 1 (some .int)] ++ wsX30
theorem oi_X3_drop : ∀ w ∈ o_X3_drop, w ∈ wGT := wGT_of _ [107, 309, 311, 3, 19, 312, 283, 285, 2, 286, 528, 529, 530, 20, 531, 219, 220, 221, 222, 113, 115, 117, 119, 121, 123] (by decide +kernel) (by decide +kernel)
def ct_X3_drop : List (Instr × Nat) := [(.invokevirtual 67, 2), (.invokevirtual 60, 1), (.invokevirtual 70, 2), (.invokevirtual 53, 1)]
abbrev rm_X3_drop : Room := { frames := 8, cells := 1, slots := 6, locals := 142 }
def b_X3_drop_0 : List wAn := [(.aload_n 0, 1, 0, 0, 0), (.iload_n 1, 1, 0, 0, 0), (.invokevirtual 67, 3, 0, 0, 2), (.aload_n 0, 1, 0, 0, 0), (.invokevirtual 60, 3, 1, 0, 1), (.aload_n 0, 1, 0, 0, 0), (.getfield 12, 3, 0, 3, 0), (.iload_n 1, 1, 0, 0, 0), (.invokevirtual 70, 3, 2, 1102, 2), (.aload_n 0, 1, 0, 0, 0), (.getfield 12, 3, 0, 3, 0), (.invokevirtual 53, 3, 3, 1102, 1), (.ireturn, 1, 0, 0, 0)]
def q_X3_drop : List (Nat × List wAn) := [(0, b_X3_drop_0)]
abbrev ck_X3_drop : List wAn → Nat → Bool := w_ckB o_X3_drop RX3 vwCl 2 cX3_drop ct_X3_drop
theorem cq_X3_drop : q_X3_drop.all (fun q => ck_X3_drop q.2 q.1) = true := by decide +kernel
def o_X3_kind : List Cond := [.methodLink RX3 67 yX3_checkFerry, .instanceMethod yX3_checkFerry, .selects RX3 yX3_checkFerry yX3_checkFerry, .initialized RX3, .code yX3_checkFerry cX3_checkFerry 2 none, .methodLink RX3 49 yX3_checkFerryNumber, .static yX3_checkFerryNumber, .code yX3_checkFerryNumber cX3_checkFerryNumber 2 none, .methodLink RX3 73 yX3_changeFerry, .instanceMethod yX3_changeFerry, .selects RX3 yX3_changeFerry yX3_changeFerry, .code yX3_changeFerry cX3_changeFerry 5 (some .int)]
theorem oi_X3_kind : ∀ w ∈ o_X3_kind, w ∈ wGT := wGT_of _ [309, 311, 3, 19, 312, 257, 258, 259, 505, 507, 17, 508] (by decide +kernel) (by decide +kernel)
def ct_X3_kind : List (Instr × Nat) := [(.invokevirtual 67, 2), (.invokestatic 49, 2), (.invokevirtual 73, 4)]
abbrev rm_X3_kind : Room := { frames := 8, cells := 1, slots := 6, locals := 142 }
def b_X3_kind_0 : List wAn := [(.aload_n 0, 1, 0, 0, 0), (.iload_n 1, 1, 0, 0, 0), (.invokevirtual 67, 3, 0, 0, 2), (.bipush 6, 2, 0, 0, 0), (.iload_n 2, 1, 0, 0, 0), (.invokestatic 49, 3, 1, 1, 2), (.aload_n 0, 1, 0, 0, 0), (.iload_n 1, 1, 0, 0, 0), (.bipush 6, 2, 0, 0, 0), (.iload_n 2, 1, 0, 0, 0), (.invokevirtual 73, 3, 2, 0, 4), (.ireturn, 1, 0, 0, 0)]
def q_X3_kind : List (Nat × List wAn) := [(0, b_X3_kind_0)]
abbrev ck_X3_kind : List wAn → Nat → Bool := w_ckB o_X3_kind RX3 vwCl 3 cX3_kind ct_X3_kind
theorem cq_X3_kind : q_X3_kind.all (fun q => ck_X3_kind q.2 q.1) = true := by decide +kernel
def o_X3_clock : List Cond := [.methodLink RX3 67 yX3_checkFerry, .instanceMethod yX3_checkFerry, .selects RX3 yX3_checkFerry yX3_checkFerry, .initialized RX3, .code yX3_checkFerry cX3_checkFerry 2 none, .methodLink RX3 49 yX3_checkFerryNumber, .static yX3_checkFerryNumber, .code yX3_checkFerryNumber cX3_checkFerryNumber 2 none, .methodLink RX3 73 yX3_changeFerry, .instanceMethod yX3_changeFerry, .selects RX3 yX3_changeFerry yX3_changeFerry, .code yX3_changeFerry cX3_changeFerry 5 (some .int)]
theorem oi_X3_clock : ∀ w ∈ o_X3_clock, w ∈ wGT := wGT_of _ [309, 311, 3, 19, 312, 257, 258, 259, 505, 507, 17, 508] (by decide +kernel) (by decide +kernel)
def ct_X3_clock : List (Instr × Nat) := [(.invokevirtual 67, 2), (.invokestatic 49, 2), (.invokevirtual 73, 4)]
abbrev rm_X3_clock : Room := { frames := 8, cells := 1, slots := 6, locals := 142 }
def b_X3_clock_0 : List wAn := [(.aload_n 0, 1, 0, 0, 0), (.iload_n 1, 1, 0, 0, 0), (.invokevirtual 67, 3, 0, 0, 2), (.bipush 7, 2, 0, 0, 0), (.iload_n 2, 1, 0, 0, 0), (.invokestatic 49, 3, 1, 1, 2), (.aload_n 0, 1, 0, 0, 0), (.iload_n 1, 1, 0, 0, 0), (.bipush 7, 2, 0, 0, 0), (.iload_n 2, 1, 0, 0, 0), (.invokevirtual 73, 3, 2, 0, 4), (.ireturn, 1, 0, 0, 0)]
def q_X3_clock : List (Nat × List wAn) := [(0, b_X3_clock_0)]
abbrev ck_X3_clock : List wAn → Nat → Bool := w_ckB o_X3_clock RX3 vwCl 3 cX3_clock ct_X3_clock
theorem cq_X3_clock : q_X3_clock.all (fun q => ck_X3_clock q.2 q.1) = true := by decide +kernel
def o_X3_set : List Cond := [.fieldLink RX3 80 RX3 "MOST_OF_SETTING" "[I", .fieldLink RX3 12 RX3 "sea" "LTideFares$Sea;", .methodLink RX3 77 yX3_checkIndex, .static yX3_checkIndex, .initialized RX3, .code yX3_checkIndex cX3_checkIndex 2 none, .methodLink RX3 83 yX3_isWithin, .static yX3_isWithin, .code yX3_isWithin cX3_isWithin 3 (some .boolean), .methodLink RX3 45 yX3_checkArgument, .static yX3_checkArgument, .code yX3_checkArgument cX3_checkArgument 1 none, .methodLink RX3 60 yX3_save, .instanceMethod yX3_save, .selects RX3 yX3_save yX3_save, .code yX3_save cX3_save 1 none, .methodLink RX3 87 yX1_settingValue, .instanceMethod yX1_settingValue, .selects RX1 yX1_settingValue yX1_settingValue, .initialized RX1, .code yX1_settingValue cX1_settingValue 2 (some .int), .methodLink RX3 91 yX1_changeSetting, .instanceMethod yX1_changeSetting, .selects RX1 yX1_changeSetting yX1_changeSetting, .code yX1_changeSetting cX1_changeSetting 3 none] ++ wsX30
theorem oi_X3_set : ∀ w ∈ o_X3_set, w ∈ wGT := wGT_of _ [518, 107, 238, 239, 19, 240, 141, 142, 143, 144, 145, 146, 283, 285, 2, 286, 347, 348, 349, 20, 350, 520, 521, 522, 523, 113, 115, 117, 119, 121, 123] (by decide +kernel) (by decide +kernel)
def ct_X3_set : List (Instr × Nat) := [(.invokestatic 77, 2), (.invokestatic 83, 3), (.invokestatic 45, 1), (.invokevirtual 60, 1), (.invokevirtual 87, 2), (.invokevirtual 91, 3)]
abbrev rm_X3_set : Room := { frames := 7, cells := 1, slots := 6, locals := 121 }
def b_X3_set_0 : List wAn := [(.iload_n 1, 1, 0, 0, 0), (.iconst 2, 1, 0, 0, 0), (.invokestatic 77, 3, 0, 1, 2), (.iload_n 2, 1, 0, 0, 0), (.iconst 0, 1, 0, 0, 0), (.getstatic 80, 3, 2, 0, 0), (.iload_n 1, 1, 0, 0, 0), (.iaload, 1, 2, 1, 0), (.invokestatic 83, 3, 1, 1, 3), (.invokestatic 45, 3, 2, 1, 1), (.aload_n 0, 1, 0, 0, 0), (.invokevirtual 60, 3, 3, 0, 1), (.aload_n 0, 1, 0, 0, 0), (.getfield 12, 3, 0, 3, 0), (.iload_n 1, 1, 0, 0, 0), (.invokevirtual 87, 3, 4, 1102, 2), (.istore_n 3, 1, 0, 0, 0), (.aload_n 0, 1, 0, 0, 0), (.getfield 12, 3, 0, 3, 0), (.iload_n 1, 1, 0, 0, 0), (.iload_n 2, 1, 0, 0, 0), (.invokevirtual 91, 3, 5, 1102, 3), (.iload_n 3, 1, 0, 0, 0), (.ireturn, 1, 0, 0, 0)]
def q_X3_set : List (Nat × List wAn) := [(0, b_X3_set_0)]
abbrev ck_X3_set : List wAn → Nat → Bool := w_ckB o_X3_set RX3 vwCl 4 cX3_set ct_X3_set
theorem cq_X3_set : q_X3_set.all (fun q => ck_X3_set q.2 q.1) = true := by decide +kernel
def o_X3_place : List Cond := [.fieldLink RX3 12 RX3 "sea" "LTideFares$Sea;", .methodLink RX3 94 yX3_checkTraveller, .static yX3_checkTraveller, .initialized RX3, .code yX3_checkTraveller cX3_checkTraveller 1 none, .methodLink RX3 41 yX3_checkIsland, .static yX3_checkIsland, .code yX3_checkIsland cX3_checkIsland 1 none, .methodLink RX3 83 yX3_isWithin, .static yX3_isWithin, .code yX3_isWithin cX3_isWithin 3 (some .boolean), .methodLink RX3 45 yX3_checkArgument, .static yX3_checkArgument, .code yX3_checkArgument cX3_checkArgument 1 none, .methodLink RX3 60 yX3_save, .instanceMethod yX3_save, .selects RX3 yX3_save yX3_save, .code yX3_save cX3_save 1 none, .methodLink RX3 97 yX1_travellerNumber, .instanceMethod yX1_travellerNumber, .selects RX1 yX1_travellerNumber yX1_travellerNumber, .initialized RX1, .code yX1_travellerNumber cX1_travellerNumber 3 (some .int), .methodLink RX3 101 yX1_changeTraveller, .instanceMethod yX1_changeTraveller, .selects RX1 yX1_changeTraveller yX1_changeTraveller, .code yX1_changeTraveller cX1_changeTraveller 4 none] ++ wsX30
theorem oi_X3_place : ∀ w ∈ o_X3_place, w ∈ wGT := wGT_of _ [107, 469, 470, 19, 471, 235, 236, 237, 141, 142, 143, 144, 145, 146, 283, 285, 2, 286, 472, 228, 229, 20, 230, 536, 537, 538, 539, 113, 115, 117, 119, 121, 123] (by decide +kernel) (by decide +kernel)
def ct_X3_place : List (Instr × Nat) := [(.invokestatic 94, 1), (.invokestatic 41, 1), (.invokestatic 83, 3), (.invokestatic 45, 1), (.invokevirtual 60, 1), (.invokevirtual 97, 3), (.invokevirtual 101, 4)]
abbrev rm_X3_place : Room := { frames := 8, cells := 1, slots := 6, locals := 141 }
def b_X3_place_0 : List wAn := [(.iload_n 1, 1, 0, 0, 0), (.invokestatic 94, 3, 0, 1, 1), (.iload_n 2, 1, 0, 0, 0), (.invokestatic 41, 3, 1, 1, 1), (.iload_n 3, 1, 0, 0, 0), (.iconst 0, 1, 0, 0, 0), (.sipush 1439, 3, 0, 0, 0), (.invokestatic 83, 3, 2, 1, 3), (.invokestatic 45, 3, 3, 1, 1), (.iload 4, 2, 0, 0, 0), (.iconst 0, 1, 0, 0, 0), (.sipush 999, 3, 0, 0, 0), (.invokestatic 83, 3, 2, 1, 3), (.invokestatic 45, 3, 3, 1, 1), (.aload_n 0, 1, 0, 0, 0), (.invokevirtual 60, 3, 4, 0, 1), (.aload_n 0, 1, 0, 0, 0), (.getfield 12, 3, 0, 3, 0), (.iload_n 1, 1, 0, 0, 0), (.iconst 2, 1, 0, 0, 0), (.invokevirtual 97, 3, 5, 1102, 3), (.istore 5, 2, 0, 0, 0), (.aload_n 0, 1, 0, 0, 0), (.getfield 12, 3, 0, 3, 0), (.iload_n 1, 1, 0, 0, 0), (.iconst 0, 1, 0, 0, 0), (.iload_n 2, 1, 0, 0, 0), (.invokevirtual 101, 3, 6, 1102, 4), (.aload_n 0, 1, 0, 0, 0), (.getfield 12, 3, 0, 3, 0), (.iload_n 1, 1, 0, 0, 0), (.iconst 1, 1, 0, 0, 0), (.iload_n 3, 1, 0, 0, 0), (.invokevirtual 101, 3, 6, 1102, 4), (.aload_n 0, 1, 0, 0, 0), (.getfield 12, 3, 0, 3, 0), (.iload_n 1, 1, 0, 0, 0), (.iconst 2, 1, 0, 0, 0), (.iload 4, 2, 0, 0, 0), (.invokevirtual 101, 3, 6, 1102, 4), (.iload 5, 2, 0, 0, 0), (.ireturn, 1, 0, 0, 0)]
def q_X3_place : List (Nat × List wAn) := [(0, b_X3_place_0)]
abbrev ck_X3_place : List wAn → Nat → Bool := w_ckB o_X3_place RX3 vwCl 6 cX3_place ct_X3_place
theorem cq_X3_place : q_X3_place.all (fun q => ck_X3_place q.2 q.1) = true := by decide +kernel
def o_X3_ferryOf : List Cond := [.fieldLink RX3 12 RX3 "sea" "LTideFares$Sea;", .methodLink RX3 67 yX3_checkFerry, .instanceMethod yX3_checkFerry, .selects RX3 yX3_checkFerry yX3_checkFerry, .initialized RX3, .code yX3_checkFerry cX3_checkFerry 2 none, .methodLink RX3 83 yX3_isWithin, .static yX3_isWithin, .code yX3_isWithin cX3_isWithin 3 (some .boolean), .methodLink RX3 45 yX3_checkArgument, .static yX3_checkArgument, .code yX3_checkArgument cX3_checkArgument 1 none, .methodLink RX3 137 yX1_ferryNumber, .instanceMethod yX1_ferryNumber, .selects RX1 yX1_ferryNumber yX1_ferryNumber, .initialized RX1, .code yX1_ferryNumber cX1_ferryNumber 3 (some .int)] ++ wsX30
theorem oi_X3_ferryOf : ∀ w ∈ o_X3_ferryOf, w ∈ wGT := wGT_of _ [107, 309, 311, 3, 19, 312, 141, 142, 143, 144, 145, 146, 339, 340, 341, 20, 342, 113, 115, 117, 119, 121, 123] (by decide +kernel) (by decide +kernel)
def ct_X3_ferryOf : List (Instr × Nat) := [(.invokevirtual 67, 2), (.invokestatic 83, 3), (.invokestatic 45, 1), (.invokevirtual 137, 3)]
abbrev rm_X3_ferryOf : Room := { frames := 8, cells := 1, slots := 6, locals := 142 }
def b_X3_ferryOf_0 : List wAn := [(.aload_n 0, 1, 0, 0, 0), (.iload_n 1, 1, 0, 0, 0), (.invokevirtual 67, 3, 0, 0, 2), (.iload_n 2, 1, 0, 0, 0), (.iconst 0, 1, 0, 0, 0), (.bipush 8, 2, 0, 0, 0), (.invokestatic 83, 3, 1, 1, 3), (.invokestatic 45, 3, 2, 1, 1), (.aload_n 0, 1, 0, 0, 0), (.getfield 12, 3, 0, 3, 0), (.iload_n 1, 1, 0, 0, 0), (.iload_n 2, 1, 0, 0, 0), (.invokevirtual 137, 3, 3, 1102, 3), (.ireturn, 1, 0, 0, 0)]
def q_X3_ferryOf : List (Nat × List wAn) := [(0, b_X3_ferryOf_0)]
abbrev ck_X3_ferryOf : List wAn → Nat → Bool := w_ckB o_X3_ferryOf RX3 vwCl 3 cX3_ferryOf ct_X3_ferryOf
theorem cq_X3_ferryOf : q_X3_ferryOf.all (fun q => ck_X3_ferryOf q.2 q.1) = true := by decide +kernel
def o_X3_traveller : List Cond := [.fieldLink RX3 12 RX3 "sea" "LTideFares$Sea;", .methodLink RX3 94 yX3_checkTraveller, .static yX3_checkTraveller, .initialized RX3, .code yX3_checkTraveller cX3_checkTraveller 1 none, .methodLink RX3 83 yX3_isWithin, .static yX3_isWithin, .code yX3_isWithin cX3_isWithin 3 (some .boolean), .methodLink RX3 45 yX3_checkArgument, .static yX3_checkArgument, .code yX3_checkArgument cX3_checkArgument 1 none, .methodLink RX3 97 yX1_travellerNumber, .instanceMethod yX1_travellerNumber, .selects RX1 yX1_travellerNumber yX1_travellerNumber, .initialized RX1, .code yX1_travellerNumber cX1_travellerNumber 3 (some .int)] ++ wsX30
theorem oi_X3_traveller : ∀ w ∈ o_X3_traveller, w ∈ wGT := wGT_of _ [107, 469, 470, 19, 471, 141, 142, 143, 144, 145, 146, 472, 228, 229, 20, 230, 113, 115, 117, 119, 121, 123] (by decide +kernel) (by decide +kernel)
def ct_X3_traveller : List (Instr × Nat) := [(.invokestatic 94, 1), (.invokestatic 83, 3), (.invokestatic 45, 1), (.invokevirtual 97, 3)]
abbrev rm_X3_traveller : Room := { frames := 8, cells := 1, slots := 6, locals := 141 }
def b_X3_traveller_0 : List wAn := [(.iload_n 1, 1, 0, 0, 0), (.invokestatic 94, 3, 0, 1, 1), (.iload_n 2, 1, 0, 0, 0), (.iconst 0, 1, 0, 0, 0), (.iconst 4, 1, 0, 0, 0), (.invokestatic 83, 3, 1, 1, 3), (.invokestatic 45, 3, 2, 1, 1), (.aload_n 0, 1, 0, 0, 0), (.getfield 12, 3, 0, 3, 0), (.iload_n 1, 1, 0, 0, 0), (.iload_n 2, 1, 0, 0, 0), (.invokevirtual 97, 3, 3, 1102, 3), (.ireturn, 1, 0, 0, 0)]
def q_X3_traveller : List (Nat × List wAn) := [(0, b_X3_traveller_0)]
abbrev ck_X3_traveller : List wAn → Nat → Bool := w_ckB o_X3_traveller RX3 vwCl 3 cX3_traveller ct_X3_traveller
theorem cq_X3_traveller : q_X3_traveller.all (fun q => ck_X3_traveller q.2 q.1) = true := by decide +kernel
def o_X3_leaves : List Cond := [.fieldLink RX3 12 RX3 "sea" "LTideFares$Sea;", .methodLink RX3 67 yX3_checkFerry, .instanceMethod yX3_checkFerry, .selects RX3 yX3_checkFerry yX3_checkFerry, .initialized RX3, .code yX3_checkFerry cX3_checkFerry 2 none, .methodLink RX3 83 yX3_isWithin, .static yX3_isWithin, .code yX3_isWithin cX3_isWithin 3 (some .boolean), .methodLink RX3 45 yX3_checkArgument, .static yX3_checkArgument, .code yX3_checkArgument cX3_checkArgument 1 none, .methodLink RX3 140 yX1_nextLeaving, .instanceMethod yX1_nextLeaving, .selects RX1 yX1_nextLeaving yX1_nextLeaving, .initialized RX1, .code yX1_nextLeaving cX1_nextLeaving 4 (some .int)] ++ wsX30
theorem oi_X3_leaves : ∀ w ∈ o_X3_leaves, w ∈ wGT := wGT_of _ [107, 309, 311, 3, 19, 312, 141, 142, 143, 144, 145, 146, 313, 314, 315, 20, 316, 113, 115, 117, 119, 121, 123] (by decide +kernel) (by decide +kernel)
def ct_X3_leaves : List (Instr × Nat) := [(.invokevirtual 67, 2), (.invokestatic 83, 3), (.invokestatic 45, 1), (.invokevirtual 140, 3)]
abbrev rm_X3_leaves : Room := { frames := 8, cells := 1, slots := 6, locals := 142 }
def b_X3_leaves_0 : List wAn := [(.aload_n 0, 1, 0, 0, 0), (.iload_n 1, 1, 0, 0, 0), (.invokevirtual 67, 3, 0, 0, 2), (.iload_n 2, 1, 0, 0, 0), (.iconst 0, 1, 0, 0, 0), (.sipush 1539, 3, 0, 0, 0), (.invokestatic 83, 3, 1, 1, 3), (.invokestatic 45, 3, 2, 1, 1), (.aload_n 0, 1, 0, 0, 0), (.getfield 12, 3, 0, 3, 0), (.iload_n 1, 1, 0, 0, 0), (.iload_n 2, 1, 0, 0, 0), (.invokevirtual 140, 3, 3, 1102, 3), (.ireturn, 1, 0, 0, 0)]
def q_X3_leaves : List (Nat × List wAn) := [(0, b_X3_leaves_0)]
abbrev ck_X3_leaves : List wAn → Nat → Bool := w_ckB o_X3_leaves RX3 vwCl 3 cX3_leaves ct_X3_leaves
theorem cq_X3_leaves : q_X3_leaves.all (fun q => ck_X3_leaves q.2 q.1) = true := by decide +kernel
def o_X3_costs : List Cond := [.fieldLink RX3 12 RX3 "sea" "LTideFares$Sea;", .methodLink RX3 67 yX3_checkFerry, .instanceMethod yX3_checkFerry, .selects RX3 yX3_checkFerry yX3_checkFerry, .initialized RX3, .code yX3_checkFerry cX3_checkFerry 2 none, .methodLink RX3 83 yX3_isWithin, .static yX3_isWithin, .code yX3_isWithin cX3_isWithin 3 (some .boolean), .methodLink RX3 45 yX3_checkArgument, .static yX3_checkArgument, .code yX3_checkArgument cX3_checkArgument 1 none, .methodLink RX3 143 yX1_price, .instanceMethod yX1_price, .selects RX1 yX1_price yX1_price, .initialized RX1, .code yX1_price cX1_price 4 (some .int)] ++ wsX30
theorem oi_X3_costs : ∀ w ∈ o_X3_costs, w ∈ wGT := wGT_of _ [107, 309, 311, 3, 19, 312, 141, 142, 143, 144, 145, 146, 355, 356, 357, 20, 358, 113, 115, 117, 119, 121, 123] (by decide +kernel) (by decide +kernel)
def ct_X3_costs : List (Instr × Nat) := [(.invokevirtual 67, 2), (.invokestatic 83, 3), (.invokestatic 45, 1), (.invokevirtual 143, 3)]
abbrev rm_X3_costs : Room := { frames := 8, cells := 1, slots := 6, locals := 142 }
def b_X3_costs_0 : List wAn := [(.aload_n 0, 1, 0, 0, 0), (.iload_n 1, 1, 0, 0, 0), (.invokevirtual 67, 3, 0, 0, 2), (.iload_n 2, 1, 0, 0, 0), (.iconst 0, 1, 0, 0, 0), (.sipush 1439, 3, 0, 0, 0), (.invokestatic 83, 3, 1, 1, 3), (.invokestatic 45, 3, 2, 1, 1), (.aload_n 0, 1, 0, 0, 0), (.getfield 12, 3, 0, 3, 0), (.iload_n 1, 1, 0, 0, 0), (.iload_n 2, 1, 0, 0, 0), (.invokevirtual 143, 3, 3, 1102, 3), (.ireturn, 1, 0, 0, 0)]
def q_X3_costs : List (Nat × List wAn) := [(0, b_X3_costs_0)]
abbrev ck_X3_costs : List wAn → Nat → Bool := w_ckB o_X3_costs RX3 vwCl 3 cX3_costs ct_X3_costs
theorem cq_X3_costs : q_X3_costs.all (fun q => ck_X3_costs q.2 q.1) = true := by decide +kernel
def o_X3_count : List Cond := [.methodLink RX3 83 yX3_isWithin, .static yX3_isWithin, .initialized RX3, .code yX3_isWithin cX3_isWithin 3 (some .boolean), .methodLink RX3 45 yX3_checkArgument, .static yX3_checkArgument, .code yX3_checkArgument cX3_checkArgument 1 none, .methodLink RX3 146 yX3_total, .instanceMethod yX3_total, .selects RX3 yX3_total yX3_total, .code yX3_total cX3_total 2 (some .int)]
theorem oi_X3_count : ∀ w ∈ o_X3_count, w ∈ wGT := wGT_of _ [141, 142, 19, 143, 144, 145, 146, 215, 217, 1, 218] (by decide +kernel) (by decide +kernel)
def ct_X3_count : List (Instr × Nat) := [(.invokestatic 83, 3), (.invokestatic 45, 1), (.invokevirtual 146, 2)]
abbrev rm_X3_count : Room := { frames := 7, cells := 1, slots := 6, locals := 120 }
def b_X3_count_0 : List wAn := [(.iload_n 1, 1, 0, 0, 0), (.iconst 0, 1, 0, 0, 0), (.iconst 4, 1, 0, 0, 0), (.invokestatic 83, 3, 0, 1, 3), (.invokestatic 45, 3, 1, 1, 1), (.aload_n 0, 1, 0, 0, 0), (.iload_n 1, 1, 0, 0, 0), (.invokevirtual 146, 3, 2, 0, 2), (.ireturn, 1, 0, 0, 0)]
def q_X3_count : List (Nat × List wAn) := [(0, b_X3_count_0)]
abbrev ck_X3_count : List wAn → Nat → Bool := w_ckB o_X3_count RX3 vwCl 2 cX3_count ct_X3_count
theorem cq_X3_count : q_X3_count.all (fun q => ck_X3_count q.2 q.1) = true := by decide +kernel
def o_X3_setting : List Cond := [.fieldLink RX3 12 RX3 "sea" "LTideFares$Sea;", .methodLink RX3 77 yX3_checkIndex, .static yX3_checkIndex, .initialized RX3, .code yX3_checkIndex cX3_checkIndex 2 none, .methodLink RX3 87 yX1_settingValue, .instanceMethod yX1_settingValue, .selects RX1 yX1_settingValue yX1_settingValue, .initialized RX1, .code yX1_settingValue cX1_settingValue 2 (some .int)] ++ wsX30
theorem oi_X3_setting : ∀ w ∈ o_X3_setting, w ∈ wGT := wGT_of _ [107, 238, 239, 19, 240, 347, 348, 349, 20, 350, 113, 115, 117, 119, 121, 123] (by decide +kernel) (by decide +kernel)
def ct_X3_setting : List (Instr × Nat) := [(.invokestatic 77, 2), (.invokevirtual 87, 2)]
abbrev rm_X3_setting : Room := { frames := 7, cells := 1, slots := 6, locals := 121 }
def b_X3_setting_0 : List wAn := [(.iload_n 1, 1, 0, 0, 0), (.iconst 2, 1, 0, 0, 0), (.invokestatic 77, 3, 0, 1, 2), (.aload_n 0, 1, 0, 0, 0), (.getfield 12, 3, 0, 3, 0), (.iload_n 1, 1, 0, 0, 0), (.invokevirtual 87, 3, 1, 1102, 2), (.ireturn, 1, 0, 0, 0)]
def q_X3_setting : List (Nat × List wAn) := [(0, b_X3_setting_0)]
abbrev ck_X3_setting : List wAn → Nat → Bool := w_ckB o_X3_setting RX3 vwCl 2 cX3_setting ct_X3_setting
theorem cq_X3_setting : q_X3_setting.all (fun q => ck_X3_setting q.2 q.1) = true := by decide +kernel
def o_X3_soonest : List Cond := [.fieldLink RX3 19 RX3 "ways" "LTideFares$Ways;", .fieldLink RX3 12 RX3 "sea" "LTideFares$Sea;", .methodLink RX3 41 yX3_checkIsland, .static yX3_checkIsland, .initialized RX3, .code yX3_checkIsland cX3_checkIsland 1 none, .methodLink RX3 83 yX3_isWithin, .static yX3_isWithin, .code yX3_isWithin cX3_isWithin 3 (some .boolean), .methodLink RX3 45 yX3_checkArgument, .static yX3_checkArgument, .code yX3_checkArgument cX3_checkArgument 1 none, .methodLink RX3 149 yX2_findArrivals, .instanceMethod yX2_findArrivals, .selects RX2 yX2_findArrivals yX2_findArrivals, .initialized RX2, .code yX2_findArrivals cX2_findArrivals 7 none, .methodLink RX3 153 yX2_arrivalAt, .instanceMethod yX2_arrivalAt, .selects RX2 yX2_arrivalAt yX2_arrivalAt, .code yX2_arrivalAt cX2_arrivalAt 2 (some .int)] ++ wsX30
theorem oi_X3_soonest : ∀ w ∈ o_X3_soonest, w ∈ wGT := wGT_of _ [108, 107, 235, 236, 19, 237, 141, 142, 143, 144, 145, 146, 370, 371, 372, 21, 373, 384, 385, 386, 387, 113, 115, 117, 119, 121, 123] (by decide +kernel) (by decide +kernel)
def ct_X3_soonest : List (Instr × Nat) := [(.invokestatic 41, 1), (.invokestatic 83, 3), (.invokestatic 45, 1), (.invokevirtual 149, 4), (.invokevirtual 153, 2)]
abbrev rm_X3_soonest : Room := { frames := 8, cells := 1, slots := 6, locals := 141 }
def b_X3_soonest_0 : List wAn := [(.iload_n 1, 1, 0, 0, 0), (.invokestatic 41, 3, 0, 1, 1), (.iload_n 2, 1, 0, 0, 0), (.invokestatic 41, 3, 0, 1, 1), (.iload_n 3, 1, 0, 0, 0), (.iconst 0, 1, 0, 0, 0), (.sipush 1439, 3, 0, 0, 0), (.invokestatic 83, 3, 1, 1, 3), (.invokestatic 45, 3, 2, 1, 1), (.aload_n 0, 1, 0, 0, 0), (.getfield 19, 3, 0, 3, 1), (.aload_n 0, 1, 0, 0, 0), (.getfield 12, 3, 0, 3, 0), (.iload_n 1, 1, 0, 0, 0), (.iload_n 3, 1, 0, 0, 0), (.invokevirtual 149, 3, 3, 409, 4), (.aload_n 0, 1, 0, 0, 0), (.getfield 19, 3, 0, 3, 1), (.iload_n 2, 1, 0, 0, 0), (.invokevirtual 153, 3, 4, 407, 2), (.ireturn, 1, 0, 0, 0)]
def q_X3_soonest : List (Nat × List wAn) := [(0, b_X3_soonest_0)]
abbrev ck_X3_soonest : List wAn → Nat → Bool := w_ckB o_X3_soonest RX3 vwCl 4 cX3_soonest ct_X3_soonest
theorem cq_X3_soonest : q_X3_soonest.all (fun q => ck_X3_soonest q.2 q.1) = true := by decide +kernel
def o_X3_cheapest : List Cond := [.fieldLink RX3 19 RX3 "ways" "LTideFares$Ways;", .fieldLink RX3 12 RX3 "sea" "LTideFares$Sea;", .methodLink RX3 41 yX3_checkIsland, .static yX3_checkIsland, .initialized RX3, .code yX3_checkIsland cX3_checkIsland 1 none, .methodLink RX3 83 yX3_isWithin, .static yX3_isWithin, .code yX3_isWithin cX3_isWithin 3 (some .boolean), .methodLink RX3 45 yX3_checkArgument, .static yX3_checkArgument, .code yX3_checkArgument cX3_checkArgument 1 none, .methodLink RX3 156 yX2_findFares, .instanceMethod yX2_findFares, .selects RX2 yX2_findFares yX2_findFares, .initialized RX2, .code yX2_findFares cX2_findFares 6 none, .methodLink RX3 160 yX2_fareTo, .instanceMethod yX2_fareTo, .selects RX2 yX2_fareTo yX2_fareTo, .code yX2_fareTo cX2_fareTo 2 (some .int)] ++ wsX30
theorem oi_X3_cheapest : ∀ w ∈ o_X3_cheapest, w ∈ wGT := wGT_of _ [108, 107, 235, 236, 19, 237, 141, 142, 143, 144, 145, 146, 398, 399, 400, 21, 401, 430, 431, 432, 433, 113, 115, 117, 119, 121, 123] (by decide +kernel) (by decide +kernel)
def ct_X3_cheapest : List (Instr × Nat) := [(.invokestatic 41, 1), (.invokestatic 83, 3), (.invokestatic 45, 1), (.invokevirtual 156, 5), (.invokevirtual 160, 2)]
abbrev rm_X3_cheapest : Room := { frames := 8, cells := 1, slots := 6, locals := 141 }
def b_X3_cheapest_0 : List wAn := [(.iload_n 1, 1, 0, 0, 0), (.invokestatic 41, 3, 0, 1, 1), (.iload_n 2, 1, 0, 0, 0), (.invokestatic 41, 3, 0, 1, 1), (.iload_n 3, 1, 0, 0, 0), (.iconst 0, 1, 0, 0, 0), (.sipush 1439, 3, 0, 0, 0), (.invokestatic 83, 3, 1, 1, 3), (.invokestatic 45, 3, 2, 1, 1), (.iload 4, 2, 0, 0, 0), (.iload_n 3, 1, 0, 0, 0), (.sipush 1539, 3, 0, 0, 0), (.invokestatic 83, 3, 1, 1, 3), (.invokestatic 45, 3, 2, 1, 1), (.aload_n 0, 1, 0, 0, 0), (.getfield 19, 3, 0, 3, 1), (.aload_n 0, 1, 0, 0, 0), (.getfield 12, 3, 0, 3, 0), (.iload_n 1, 1, 0, 0, 0), (.iload_n 3, 1, 0, 0, 0), (.iload 4, 2, 0, 0, 0), (.invokevirtual 156, 3, 3, 409, 5), (.aload_n 0, 1, 0, 0, 0), (.getfield 19, 3, 0, 3, 1), (.iload_n 2, 1, 0, 0, 0), (.invokevirtual 160, 3, 4, 407, 2), (.ireturn, 1, 0, 0, 0)]
def q_X3_cheapest : List (Nat × List wAn) := [(0, b_X3_cheapest_0)]
abbrev ck_X3_cheapest : List wAn → Nat → Bool := w_ckB o_X3_cheapest RX3 vwCl 5 cX3_cheapest ct_X3_cheapest
theorem cq_X3_cheapest : q_X3_cheapest.all (fun q => ck_X3_cheapest q.2 q.1) = true := by decide +kernel
def o_X3_reach : List Cond := [.methodLink RX3 94 yX3_checkTraveller, .static yX3_checkTraveller, .initialized RX3, .code yX3_checkTraveller cX3_checkTraveller 1 none, .methodLink RX3 163 yX3_islandsFor, .instanceMethod yX3_islandsFor, .selects RX3 yX3_islandsFor yX3_islandsFor, .code yX3_islandsFor cX3_islandsFor 2 (some .int)]
theorem oi_X3_reach : ∀ w ∈ o_X3_reach, w ∈ wGT := wGT_of _ [469, 470, 19, 471, 477, 479, 15, 480] (by decide +kernel) (by decide +kernel)
def ct_X3_reach : List (Instr × Nat) := [(.invokestatic 94, 1), (.invokevirtual 163, 2)]
abbrev rm_X3_reach : Room := { frames := 8, cells := 1, slots := 6, locals := 147 }
def b_X3_reach_0 : List wAn := [(.iload_n 1, 1, 0, 0, 0), (.invokestatic 94, 3, 0, 1, 1), (.aload_n 0, 1, 0, 0, 0), (.iload_n 1, 1, 0, 0, 0), (.invokevirtual 163, 3, 1, 0, 2), (.ireturn, 1, 0, 0, 0)]
def q_X3_reach : List (Nat × List wAn) := [(0, b_X3_reach_0)]
abbrev ck_X3_reach : List wAn → Nat → Bool := w_ckB o_X3_reach RX3 vwCl 2 cX3_reach ct_X3_reach
theorem cq_X3_reach : q_X3_reach.all (fun q => ck_X3_reach q.2 q.1) = true := by decide +kernel
def o_X3_lastStart : List Cond := [.fieldLink RX3 19 RX3 "ways" "LTideFares$Ways;", .fieldLink RX3 12 RX3 "sea" "LTideFares$Sea;", .methodLink RX3 41 yX3_checkIsland, .static yX3_checkIsland, .initialized RX3, .code yX3_checkIsland cX3_checkIsland 1 none, .methodLink RX3 45 yX3_checkArgument, .static yX3_checkArgument, .code yX3_checkArgument cX3_checkArgument 1 none, .methodLink RX3 83 yX3_isWithin, .static yX3_isWithin, .code yX3_isWithin cX3_isWithin 3 (some .boolean), .methodLink RX3 166 yX2_findStarts, .instanceMethod yX2_findStarts, .selects RX2 yX2_findStarts yX2_findStarts, .initialized RX2, .code yX2_findStarts cX2_findStarts 7 none, .methodLink RX3 169 yX2_startFrom, .instanceMethod yX2_startFrom, .selects RX2 yX2_startFrom yX2_startFrom, .code yX2_startFrom cX2_startFrom 2 (some .int)] ++ wsX30
theorem oi_X3_lastStart : ∀ w ∈ o_X3_lastStart, w ∈ wGT := wGT_of _ [108, 107, 235, 236, 19, 237, 144, 145, 146, 141, 142, 143, 441, 442, 443, 21, 444, 458, 459, 460, 461, 113, 115, 117, 119, 121, 123] (by decide +kernel) (by decide +kernel)
def ct_X3_lastStart : List (Instr × Nat) := [(.invokestatic 41, 1), (.invokestatic 45, 1), (.invokestatic 83, 3), (.invokevirtual 166, 4), (.invokevirtual 169, 2)]
abbrev rm_X3_lastStart : Room := { frames := 8, cells := 1, slots := 6, locals := 141 }
def b_X3_lastStart_0 : List wAn := [(.iload_n 1, 1, 0, 0, 0), (.invokestatic 41, 3, 0, 1, 1), (.iload_n 2, 1, 0, 0, 0), (.invokestatic 41, 3, 0, 1, 1), (.iload_n 1, 1, 0, 0, 0), (.iload_n 2, 1, 0, 0, 0), (.if_icmp .eq 7, 3, 17, 0, 0), (.iconst 1, 1, 0, 0, 0), (.goto 4, 3, 18, 0, 0)]
def b_X3_lastStart_17 : List wAn := [(.iconst 0, 1, 0, 0, 0)]
def b_X3_lastStart_18 : List wAn := [(.invokestatic 45, 3, 1, 1, 1), (.iload_n 3, 1, 0, 0, 0), (.iconst 0, 1, 0, 0, 0), (.sipush 1539, 3, 0, 0, 0), (.invokestatic 83, 3, 2, 1, 3), (.invokestatic 45, 3, 1, 1, 1), (.aload_n 0, 1, 0, 0, 0), (.getfield 19, 3, 0, 3, 1), (.aload_n 0, 1, 0, 0, 0), (.getfield 12, 3, 0, 3, 0), (.iload_n 2, 1, 0, 0, 0), (.iload_n 3, 1, 0, 0, 0), (.invokevirtual 166, 3, 3, 409, 4), (.aload_n 0, 1, 0, 0, 0), (.getfield 19, 3, 0, 3, 1), (.iload_n 1, 1, 0, 0, 0), (.invokevirtual 169, 3, 4, 407, 2), (.ireturn, 1, 0, 0, 0)]
def q_X3_lastStart : List (Nat × List wAn) := [(0, b_X3_lastStart_0), (17, b_X3_lastStart_17), (18, b_X3_lastStart_18)]
abbrev ck_X3_lastStart : List wAn → Nat → Bool := w_ckB o_X3_lastStart RX3 vwCl 4 cX3_lastStart ct_X3_lastStart
theorem cq_X3_lastStart : q_X3_lastStart.all (fun q => ck_X3_lastStart q.2 q.1) = true := by decide +kernel
def o_X3_joined : List Cond := [.constantDouble RX3 175 (UInt64.ofNat 4633078116657397760), .methodLink RX3 172 yX3_joinedPairs, .instanceMethod yX3_joinedPairs, .selects RX3 yX3_joinedPairs yX3_joinedPairs, .initialized RX3, .code yX3_joinedPairs cX3_joinedPairs 4 (some .int)]
theorem oi_X3_joined : ∀ w ∈ o_X3_joined, w ∈ wGT := wGT_of _ [496, 492, 494, 16, 19, 495] (by decide +kernel) (by decide +kernel)
def ct_X3_joined : List (Instr × Nat) := [(.invokevirtual 172, 1)]
abbrev rm_X3_joined : Room := { frames := 5, cells := 0, slots := 0, locals := 123 }
def b_X3_joined_0 : List wAn := [(.aload_n 0, 1, 0, 0, 0), (.invokevirtual 172, 3, 0, 0, 1), (.i2d, 1, 0, 0, 0), (.ldc2_w 175, 3, 4633078116657397760, 1, 0), (.ddiv, 1, 0, 0, 0), (.dreturn, 1, 0, 0, 0)]
def q_X3_joined : List (Nat × List wAn) := [(0, b_X3_joined_0)]
abbrev ck_X3_joined : List wAn → Nat → Bool := w_ckB o_X3_joined RX3 vwCl 1 cX3_joined ct_X3_joined
theorem cq_X3_joined : q_X3_joined.all (fun q => ck_X3_joined q.2 q.1) = true := by decide +kernel
def o_X3_isWithin : List Cond := []
theorem oi_X3_isWithin : ∀ w ∈ o_X3_isWithin, w ∈ wGT := wGT_of _ [] (by decide +kernel) (by decide +kernel)
def ct_X3_isWithin : List (Instr × Nat) := []
abbrev rm_X3_isWithin : Room := { frames := 0, cells := 0, slots := 0, locals := 0 }
def b_X3_isWithin_0 : List wAn := [(.iload_n 0, 1, 0, 0, 0), (.iload_n 1, 1, 0, 0, 0), (.if_icmp .lt 12, 3, 14, 0, 0), (.iload_n 0, 1, 0, 0, 0), (.iload_n 2, 1, 0, 0, 0), (.if_icmp .gt 7, 3, 14, 0, 0), (.iconst 1, 1, 0, 0, 0), (.goto 4, 3, 15, 0, 0)]
def b_X3_isWithin_14 : List wAn := [(.iconst 0, 1, 0, 0, 0)]
def b_X3_isWithin_15 : List wAn := [(.ireturn, 1, 0, 0, 0)]
def q_X3_isWithin : List (Nat × List wAn) := [(0, b_X3_isWithin_0), (14, b_X3_isWithin_14), (15, b_X3_isWithin_15)]
abbrev ck_X3_isWithin : List wAn → Nat → Bool := w_ckB o_X3_isWithin RX3 vwCl 3 cX3_isWithin ct_X3_isWithin
theorem cq_X3_isWithin : q_X3_isWithin.all (fun q => ck_X3_isWithin q.2 q.1) = true := by decide +kernel
def o_X3_checkIndex : List Cond := [.methodLink RX3 83 yX3_isWithin, .static yX3_isWithin, .initialized RX3, .code yX3_isWithin cX3_isWithin 3 (some .boolean)]
theorem oi_X3_checkIndex : ∀ w ∈ o_X3_checkIndex, w ∈ wGT := wGT_of _ [141, 142, 19, 143] (by decide +kernel) (by decide +kernel)
def ct_X3_checkIndex : List (Instr × Nat) := [(.invokestatic 83, 3)]
abbrev rm_X3_checkIndex : Room := { frames := 6, cells := 1, slots := 6, locals := 100 }
def o_X3_checkArgument : List Cond := []
theorem oi_X3_checkArgument : ∀ w ∈ o_X3_checkArgument, w ∈ wGT := wGT_of _ [] (by decide +kernel) (by decide +kernel)
def ct_X3_checkArgument : List (Instr × Nat) := []
abbrev rm_X3_checkArgument : Room := { frames := 6, cells := 1, slots := 6, locals := 100 }
def o_X3_checkState : List Cond := []
theorem oi_X3_checkState : ∀ w ∈ o_X3_checkState, w ∈ wGT := wGT_of _ [] (by decide +kernel) (by decide +kernel)
def ct_X3_checkState : List (Instr × Nat) := []
abbrev rm_X3_checkState : Room := { frames := 6, cells := 1, slots := 6, locals := 100 }
def o_X3_checkIsland : List Cond := [.methodLink RX3 77 yX3_checkIndex, .static yX3_checkIndex, .initialized RX3, .code yX3_checkIndex cX3_checkIndex 2 none]
theorem oi_X3_checkIsland : ∀ w ∈ o_X3_checkIsland, w ∈ wGT := wGT_of _ [238, 239, 19, 240] (by decide +kernel) (by decide +kernel)
def ct_X3_checkIsland : List (Instr × Nat) := [(.invokestatic 77, 2)]
abbrev rm_X3_checkIsland : Room := { frames := 7, cells := 1, slots := 6, locals := 121 }
def b_X3_checkIsland_0 : List wAn := [(.iload_n 0, 1, 0, 0, 0), (.bipush 8, 2, 0, 0, 0), (.invokestatic 77, 3, 0, 1, 2), (.return_, 1, 0, 0, 0)]
def q_X3_checkIsland : List (Nat × List wAn) := [(0, b_X3_checkIsland_0)]
abbrev ck_X3_checkIsland : List wAn → Nat → Bool := w_ckB o_X3_checkIsland RX3 vwCl 1 cX3_checkIsland ct_X3_checkIsland
theorem cq_X3_checkIsland : q_X3_checkIsland.all (fun q => ck_X3_checkIsland q.2 q.1) = true := by decide +kernel
def o_X3_checkTraveller : List Cond := [.methodLink RX3 77 yX3_checkIndex, .static yX3_checkIndex, .initialized RX3, .code yX3_checkIndex cX3_checkIndex 2 none]
theorem oi_X3_checkTraveller : ∀ w ∈ o_X3_checkTraveller, w ∈ wGT := wGT_of _ [238, 239, 19, 240] (by decide +kernel) (by decide +kernel)
def ct_X3_checkTraveller : List (Instr × Nat) := [(.invokestatic 77, 2)]
abbrev rm_X3_checkTraveller : Room := { frames := 7, cells := 1, slots := 6, locals := 121 }
def b_X3_checkTraveller_0 : List wAn := [(.iload_n 0, 1, 0, 0, 0), (.iconst 4, 1, 0, 0, 0), (.invokestatic 77, 3, 0, 1, 2), (.return_, 1, 0, 0, 0)]
def q_X3_checkTraveller : List (Nat × List wAn) := [(0, b_X3_checkTraveller_0)]
abbrev ck_X3_checkTraveller : List wAn → Nat → Bool := w_ckB o_X3_checkTraveller RX3 vwCl 1 cX3_checkTraveller ct_X3_checkTraveller
theorem cq_X3_checkTraveller : q_X3_checkTraveller.all (fun q => ck_X3_checkTraveller q.2 q.1) = true := by decide +kernel
def o_X3_checkFerry : List Cond := [.fieldLink RX3 12 RX3 "sea" "LTideFares$Sea;", .methodLink RX3 53 yX1_ferryCount, .instanceMethod yX1_ferryCount, .selects RX1 yX1_ferryCount yX1_ferryCount, .initialized RX1, .code yX1_ferryCount cX1_ferryCount 1 (some .int), .methodLink RX3 77 yX3_checkIndex, .static yX3_checkIndex, .initialized RX3, .code yX3_checkIndex cX3_checkIndex 2 none] ++ wsX30
theorem oi_X3_checkFerry : ∀ w ∈ o_X3_checkFerry, w ∈ wGT := wGT_of _ [107, 219, 220, 221, 20, 222, 238, 239, 19, 240, 113, 115, 117, 119, 121, 123] (by decide +kernel) (by decide +kernel)
def ct_X3_checkFerry : List (Instr × Nat) := [(.invokevirtual 53, 1), (.invokestatic 77, 2)]
abbrev rm_X3_checkFerry : Room := { frames := 7, cells := 1, slots := 6, locals := 121 }
def b_X3_checkFerry_0 : List wAn := [(.iload_n 1, 1, 0, 0, 0), (.aload_n 0, 1, 0, 0, 0), (.getfield 12, 3, 0, 3, 0), (.invokevirtual 53, 3, 0, 1102, 1), (.invokestatic 77, 3, 1, 1, 2), (.return_, 1, 0, 0, 0)]
def q_X3_checkFerry : List (Nat × List wAn) := [(0, b_X3_checkFerry_0)]
abbrev ck_X3_checkFerry : List wAn → Nat → Bool := w_ckB o_X3_checkFerry RX3 vwCl 2 cX3_checkFerry ct_X3_checkFerry
theorem cq_X3_checkFerry : q_X3_checkFerry.all (fun q => ck_X3_checkFerry q.2 q.1) = true := by decide +kernel
def o_X3_checkFerryNumber : List Cond := [.fieldLink RX3 218 RX3 "LEAST" "[I", .fieldLink RX3 221 RX3 "MOST" "[I", .methodLink RX3 83 yX3_isWithin, .static yX3_isWithin, .initialized RX3, .code yX3_isWithin cX3_isWithin 3 (some .boolean), .methodLink RX3 45 yX3_checkArgument, .static yX3_checkArgument, .code yX3_checkArgument cX3_checkArgument 1 none]
theorem oi_X3_checkFerryNumber : ∀ w ∈ o_X3_checkFerryNumber, w ∈ wGT := wGT_of _ [260, 262, 141, 142, 19, 143, 144, 145, 146] (by decide +kernel) (by decide +kernel)
def ct_X3_checkFerryNumber : List (Instr × Nat) := [(.invokestatic 83, 3), (.invokestatic 45, 1)]
abbrev rm_X3_checkFerryNumber : Room := { frames := 7, cells := 1, slots := 6, locals := 120 }
def b_X3_checkFerryNumber_0 : List wAn := [(.iload_n 1, 1, 0, 0, 0), (.getstatic 218, 3, 0, 0, 0), (.iload_n 0, 1, 0, 0, 0), (.iaload, 1, 0, 1, 0), (.getstatic 221, 3, 1, 0, 0), (.iload_n 0, 1, 0, 0, 0), (.iaload, 1, 1, 1, 0), (.invokestatic 83, 3, 0, 1, 3), (.invokestatic 45, 3, 1, 1, 1), (.return_, 1, 0, 0, 0)]
def q_X3_checkFerryNumber : List (Nat × List wAn) := [(0, b_X3_checkFerryNumber_0)]
abbrev ck_X3_checkFerryNumber : List wAn → Nat → Bool := w_ckB o_X3_checkFerryNumber RX3 vwCl 2 cX3_checkFerryNumber ct_X3_checkFerryNumber
theorem cq_X3_checkFerryNumber : q_X3_checkFerryNumber.all (fun q => ck_X3_checkFerryNumber q.2 q.1) = true := by decide +kernel
def o_X3_save : List Cond := [.fieldLink RX3 34 RX3 "savedCount" "I", .fieldLink RX3 38 RX3 "oldestSaved" "I", .fieldLink RX3 12 RX3 "sea" "LTideFares$Sea;", .fieldLink RX3 30 RX3 "saved" "[I", .methodLink RX3 224 yX1_copyTo, .instanceMethod yX1_copyTo, .selects RX1 yX1_copyTo yX1_copyTo, .initialized RX1, .code yX1_copyTo cX1_copyTo 3 none] ++ wsX30
theorem oi_X3_save : ∀ w ∈ o_X3_save, w ∈ wGT := wGT_of _ [111, 112, 107, 110, 287, 288, 289, 20, 290, 113, 115, 117, 119, 121, 123] (by decide +kernel) (by decide +kernel)
def ct_X3_save : List (Instr × Nat) := [(.invokevirtual 224, 3)]
abbrev rm_X3_save : Room := { frames := 2, cells := 0, slots := 0, locals := 82 }
def b_X3_save_0 : List wAn := [(.aload_n 0, 1, 0, 0, 0), (.getfield 34, 3, 0, 3, 4), (.bipush 6, 2, 0, 0, 0), (.if_icmp .ne 26, 3, 32, 0, 0), (.aload_n 0, 1, 0, 0, 0), (.aload_n 0, 1, 0, 0, 0), (.getfield 38, 3, 0, 3, 5), (.iconst 1, 1, 0, 0, 0), (.iadd, 1, 0, 0, 0), (.bipush 6, 2, 0, 0, 0), (.irem, 1, 0, 0, 0), (.putfield 38, 3, 0, 3, 5), (.aload_n 0, 1, 0, 0, 0), (.dup, 1, 0, 0, 0), (.getfield 34, 3, 0, 3, 4), (.iconst 1, 1, 0, 0, 0), (.isub, 1, 0, 0, 0), (.putfield 34, 3, 0, 3, 4)]
def b_X3_save_32 : List wAn := [(.aload_n 0, 1, 0, 0, 0), (.getfield 12, 3, 0, 3, 0), (.aload_n 0, 1, 0, 0, 0), (.getfield 30, 3, 0, 3, 3), (.aload_n 0, 1, 0, 0, 0), (.getfield 38, 3, 0, 3, 5), (.aload_n 0, 1, 0, 0, 0), (.getfield 34, 3, 0, 3, 4), (.iadd, 1, 0, 0, 0), (.bipush 6, 2, 0, 0, 0), (.irem, 1, 0, 0, 0), (.sipush 149, 3, 0, 0, 0), (.imul, 1, 0, 0, 0), (.invokevirtual 224, 3, 0, 1103, 3), (.aload_n 0, 1, 0, 0, 0), (.dup, 1, 0, 0, 0), (.getfield 34, 3, 0, 3, 4), (.iconst 1, 1, 0, 0, 0), (.iadd, 1, 0, 0, 0), (.putfield 34, 3, 0, 3, 4), (.return_, 1, 0, 0, 0)]
def q_X3_save : List (Nat × List wAn) := [(0, b_X3_save_0), (32, b_X3_save_32)]
abbrev ck_X3_save : List wAn → Nat → Bool := w_ckB o_X3_save RX3 vwCl 1 cX3_save ct_X3_save
theorem cq_X3_save : q_X3_save.all (fun q => ck_X3_save q.2 q.1) = true := by decide +kernel
def o_X3_changeFerry : List Cond := [.fieldLink RX3 12 RX3 "sea" "LTideFares$Sea;", .methodLink RX3 60 yX3_save, .instanceMethod yX3_save, .selects RX3 yX3_save yX3_save, .initialized RX3, .code yX3_save cX3_save 1 none, .methodLink RX3 137 yX1_ferryNumber, .instanceMethod yX1_ferryNumber, .selects RX1 yX1_ferryNumber yX1_ferryNumber, .initialized RX1, .code yX1_ferryNumber cX1_ferryNumber 3 (some .int), .methodLink RX3 227 yX1_changeFerry, .instanceMethod yX1_changeFerry, .selects RX1 yX1_changeFerry yX1_changeFerry, .code yX1_changeFerry cX1_changeFerry 4 none] ++ wsX30
theorem oi_X3_changeFerry : ∀ w ∈ o_X3_changeFerry, w ∈ wGT := wGT_of _ [107, 283, 285, 2, 19, 286, 339, 340, 341, 20, 342, 509, 299, 300, 301, 113, 115, 117, 119, 121, 123] (by decide +kernel) (by decide +kernel)
def ct_X3_changeFerry : List (Instr × Nat) := [(.invokevirtual 60, 1), (.invokevirtual 137, 3), (.invokevirtual 227, 4)]
abbrev rm_X3_changeFerry : Room := { frames := 3, cells := 0, slots := 0, locals := 102 }
def b_X3_changeFerry_0 : List wAn := [(.aload_n 0, 1, 0, 0, 0), (.invokevirtual 60, 3, 0, 0, 1), (.aload_n 0, 1, 0, 0, 0), (.getfield 12, 3, 0, 3, 0), (.iload_n 1, 1, 0, 0, 0), (.iload_n 2, 1, 0, 0, 0), (.invokevirtual 137, 3, 1, 1102, 3), (.istore 4, 2, 0, 0, 0), (.aload_n 0, 1, 0, 0, 0), (.getfield 12, 3, 0, 3, 0), (.iload_n 1, 1, 0, 0, 0), (.iload_n 2, 1, 0, 0, 0), (.iload_n 3, 1, 0, 0, 0), (.invokevirtual 227, 3, 2, 1102, 4), (.iload 4, 2, 0, 0, 0), (.ireturn, 1, 0, 0, 0)]
def q_X3_changeFerry : List (Nat × List wAn) := [(0, b_X3_changeFerry_0)]
abbrev ck_X3_changeFerry : List wAn → Nat → Bool := w_ckB o_X3_changeFerry RX3 vwCl 5 cX3_changeFerry ct_X3_changeFerry
theorem cq_X3_changeFerry : q_X3_changeFerry.all (fun q => ck_X3_changeFerry q.2 q.1) = true := by decide +kernel
def o_X3_total : List Cond := [.fieldLink RX3 12 RX3 "sea" "LTideFares$Sea;", .fieldLink RX3 34 RX3 "savedCount" "I", .methodLink RX3 53 yX1_ferryCount, .instanceMethod yX1_ferryCount, .selects RX1 yX1_ferryCount yX1_ferryCount, .initialized RX1, .code yX1_ferryCount cX1_ferryCount 1 (some .int), .methodLink RX3 229 yX1_sumOfTravellers, .instanceMethod yX1_sumOfTravellers, .selects RX1 yX1_sumOfTravellers yX1_sumOfTravellers, .code yX1_sumOfTravellers cX1_sumOfTravellers 4 (some .int)] ++ wsX30
theorem oi_X3_total : ∀ w ∈ o_X3_total, w ∈ wGT := wGT_of _ [107, 111, 219, 220, 221, 20, 222, 223, 224, 225, 226, 113, 115, 117, 119, 121, 123] (by decide +kernel) (by decide +kernel)
def ct_X3_total : List (Instr × Nat) := [(.invokevirtual 53, 1), (.invokevirtual 229, 2)]
abbrev rm_X3_total : Room := { frames := 2, cells := 0, slots := 0, locals := 45 }
def b_X3_total_0 : List wAn := [(.iload_n 1, 1, 0, 0, 0), (.ifCond .ne 11, 3, 12, 0, 0), (.aload_n 0, 1, 0, 0, 0), (.getfield 12, 3, 0, 3, 0), (.invokevirtual 53, 3, 0, 1102, 1), (.ireturn, 1, 0, 0, 0)]
def b_X3_total_12 : List wAn := [(.iload_n 1, 1, 0, 0, 0), (.iconst 1, 1, 0, 0, 0), (.if_icmp .ne 12, 3, 26, 0, 0), (.aload_n 0, 1, 0, 0, 0), (.getfield 12, 3, 0, 3, 0), (.iconst 3, 1, 0, 0, 0), (.invokevirtual 229, 3, 1, 1102, 2), (.ireturn, 1, 0, 0, 0)]
def b_X3_total_26 : List wAn := [(.iload_n 1, 1, 0, 0, 0), (.iconst 2, 1, 0, 0, 0), (.if_icmp .ne 12, 3, 40, 0, 0), (.aload_n 0, 1, 0, 0, 0), (.getfield 12, 3, 0, 3, 0), (.iconst 4, 1, 0, 0, 0), (.invokevirtual 229, 3, 1, 1102, 2), (.ireturn, 1, 0, 0, 0)]
def b_X3_total_40 : List wAn := [(.iload_n 1, 1, 0, 0, 0), (.iconst 3, 1, 0, 0, 0), (.if_icmp .ne 14, 3, 56, 0, 0), (.aload_n 0, 1, 0, 0, 0), (.getfield 12, 3, 0, 3, 0), (.iconst 2, 1, 0, 0, 0), (.invokevirtual 229, 3, 1, 1102, 2), (.goto 7, 3, 60, 0, 0)]
def b_X3_total_56 : List wAn := [(.aload_n 0, 1, 0, 0, 0), (.getfield 34, 3, 0, 3, 4)]
def b_X3_total_60 : List wAn := [(.ireturn, 1, 0, 0, 0)]
def q_X3_total : List (Nat × List wAn) := [(0, b_X3_total_0), (12, b_X3_total_12), (26, b_X3_total_26), (40, b_X3_total_40), (56, b_X3_total_56), (60, b_X3_total_60)]
abbrev ck_X3_total : List wAn → Nat → Bool := w_ckB o_X3_total RX3 vwCl 2 cX3_total ct_X3_total
theorem cq_X3_total : q_X3_total.all (fun q => ck_X3_total q.2 q.1) = true := by decide +kernel
def o_X3_islandsFor : List Cond := [.fieldLink RX3 19 RX3 "ways" "LTideFares$Ways;", .fieldLink RX3 12 RX3 "sea" "LTideFares$Sea;", .methodLink RX3 97 yX1_travellerNumber, .instanceMethod yX1_travellerNumber, .selects RX1 yX1_travellerNumber yX1_travellerNumber, .initialized RX1, .code yX1_travellerNumber cX1_travellerNumber 3 (some .int), .methodLink RX3 156 yX2_findFares, .instanceMethod yX2_findFares, .selects RX2 yX2_findFares yX2_findFares, .initialized RX2, .code yX2_findFares cX2_findFares 6 none, .methodLink RX3 232 yX2_islandsWithin, .instanceMethod yX2_islandsWithin, .selects RX2 yX2_islandsWithin yX2_islandsWithin, .code yX2_islandsWithin cX2_islandsWithin 4 (some .int)] ++ wsX30
theorem oi_X3_islandsFor : ∀ w ∈ o_X3_islandsFor, w ∈ wGT := wGT_of _ [108, 107, 472, 228, 229, 20, 230, 398, 399, 400, 21, 401, 481, 482, 483, 484, 113, 115, 117, 119, 121, 123] (by decide +kernel) (by decide +kernel)
def ct_X3_islandsFor : List (Instr × Nat) := [(.invokevirtual 97, 3), (.invokevirtual 156, 5), (.invokevirtual 232, 2)]
abbrev rm_X3_islandsFor : Room := { frames := 5, cells := 0, slots := 0, locals := 126 }
def b_X3_islandsFor_0 : List wAn := [(.aload_n 0, 1, 0, 0, 0), (.getfield 19, 3, 0, 3, 1), (.aload_n 0, 1, 0, 0, 0), (.getfield 12, 3, 0, 3, 0), (.aload_n 0, 1, 0, 0, 0), (.getfield 12, 3, 0, 3, 0), (.iload_n 1, 1, 0, 0, 0), (.iconst 0, 1, 0, 0, 0), (.invokevirtual 97, 3, 0, 1102, 3), (.aload_n 0, 1, 0, 0, 0), (.getfield 12, 3, 0, 3, 0), (.iload_n 1, 1, 0, 0, 0), (.iconst 1, 1, 0, 0, 0), (.invokevirtual 97, 3, 0, 1102, 3), (.sipush 1539, 3, 0, 0, 0), (.invokevirtual 156, 3, 1, 409, 5), (.aload_n 0, 1, 0, 0, 0), (.getfield 19, 3, 0, 3, 1), (.aload_n 0, 1, 0, 0, 0), (.getfield 12, 3, 0, 3, 0), (.iload_n 1, 1, 0, 0, 0), (.iconst 2, 1, 0, 0, 0), (.invokevirtual 97, 3, 0, 1102, 3), (.invokevirtual 232, 3, 2, 407, 2), (.ireturn, 1, 0, 0, 0)]
def q_X3_islandsFor : List (Nat × List wAn) := [(0, b_X3_islandsFor_0)]
abbrev ck_X3_islandsFor : List wAn → Nat → Bool := w_ckB o_X3_islandsFor RX3 vwCl 2 cX3_islandsFor ct_X3_islandsFor
theorem cq_X3_islandsFor : q_X3_islandsFor.all (fun q => ck_X3_islandsFor q.2 q.1) = true := by decide +kernel
def o_X3_joinedPairs : List Cond := [.fieldLink RX3 19 RX3 "ways" "LTideFares$Ways;", .fieldLink RX3 12 RX3 "sea" "LTideFares$Sea;", .methodLink RX3 149 yX2_findArrivals, .instanceMethod yX2_findArrivals, .selects RX2 yX2_findArrivals yX2_findArrivals, .initialized RX2, .code yX2_findArrivals cX2_findArrivals 7 none, .methodLink RX3 153 yX2_arrivalAt, .instanceMethod yX2_arrivalAt, .selects RX2 yX2_arrivalAt yX2_arrivalAt, .code yX2_arrivalAt cX2_arrivalAt 2 (some .int)] ++ wsX30
theorem oi_X3_joinedPairs : ∀ w ∈ o_X3_joinedPairs, w ∈ wGT := wGT_of _ [108, 107, 370, 371, 372, 21, 373, 384, 385, 386, 387, 113, 115, 117, 119, 121, 123] (by decide +kernel) (by decide +kernel)
def ct_X3_joinedPairs : List (Instr × Nat) := [(.invokevirtual 149, 4), (.invokevirtual 153, 2)]
abbrev rm_X3_joinedPairs : Room := { frames := 4, cells := 0, slots := 0, locals := 100 }
def b_X3_joinedPairs_0 : List wAn := [(.iconst 0, 1, 0, 0, 0), (.istore_n 1, 1, 0, 0, 0), (.iconst 0, 1, 0, 0, 0), (.istore_n 2, 1, 0, 0, 0)]
def b_X3_joinedPairs_4 : List wAn := [(.iload_n 2, 1, 0, 0, 0), (.bipush 8, 2, 0, 0, 0), (.if_icmp .ge 56, 3, 63, 0, 0), (.aload_n 0, 1, 0, 0, 0), (.getfield 19, 3, 0, 3, 1), (.aload_n 0, 1, 0, 0, 0), (.getfield 12, 3, 0, 3, 0), (.iload_n 2, 1, 0, 0, 0), (.iconst 0, 1, 0, 0, 0), (.invokevirtual 149, 3, 0, 409, 4), (.iconst 0, 1, 0, 0, 0), (.istore_n 3, 1, 0, 0, 0)]
def b_X3_joinedPairs_25 : List wAn := [(.iload_n 3, 1, 0, 0, 0), (.bipush 8, 2, 0, 0, 0), (.if_icmp .ge 29, 3, 57, 0, 0), (.iload_n 3, 1, 0, 0, 0), (.iload_n 2, 1, 0, 0, 0), (.if_icmp .eq 18, 3, 51, 0, 0), (.aload_n 0, 1, 0, 0, 0), (.getfield 19, 3, 0, 3, 1), (.iload_n 3, 1, 0, 0, 0), (.invokevirtual 153, 3, 1, 407, 2), (.iconst (-1), 1, 0, 0, 0), (.if_icmp .eq 6, 3, 51, 0, 0), (.iinc 1 1, 3, 0, 0, 0)]
def b_X3_joinedPairs_51 : List wAn := [(.iinc 3 1, 3, 0, 0, 0), (.goto (-29), 3, 25, 0, 0)]
def b_X3_joinedPairs_57 : List wAn := [(.iinc 2 1, 3, 0, 0, 0), (.goto (-56), 3, 4, 0, 0)]
def b_X3_joinedPairs_63 : List wAn := [(.iload_n 1, 1, 0, 0, 0), (.ireturn, 1, 0, 0, 0)]
def q_X3_joinedPairs : List (Nat × List wAn) := [(0, b_X3_joinedPairs_0), (4, b_X3_joinedPairs_4), (25, b_X3_joinedPairs_25), (51, b_X3_joinedPairs_51), (57, b_X3_joinedPairs_57), (63, b_X3_joinedPairs_63)]
abbrev ck_X3_joinedPairs : List wAn → Nat → Bool := w_ckB o_X3_joinedPairs RX3 vwCl 4 cX3_joinedPairs ct_X3_joinedPairs
theorem cq_X3_joinedPairs : q_X3_joinedPairs.all (fun q => ck_X3_joinedPairs q.2 q.1) = true := by decide +kernel
def o_X1_copyTo : List Cond := [.fieldLink RX1 9 RX1 "numbers" "[I"] ++ wsX10
theorem oi_X1_copyTo : ∀ w ∈ o_X1_copyTo, w ∈ wGT := wGT_of _ [46, 47] (by decide +kernel) (by decide +kernel)
def ct_X1_copyTo : List (Instr × Nat) := [(.invokestatic 15, 5)]
abbrev rm_X1_copyTo : Room := { frames := 1, cells := 0, slots := 0, locals := 60 }
def b_X1_copyTo_0 : List wAn := [(.aload_n 0, 1, 0, 0, 0), (.getfield 9, 3, 0, 1, 0), (.iconst 0, 1, 0, 0, 0), (.aload_n 1, 1, 0, 0, 0), (.iload_n 2, 1, 0, 0, 0), (.sipush 149, 3, 0, 0, 0), (.invokestatic 15, 3, 0, 0, 5), (.return_, 1, 0, 0, 0)]
def q_X1_copyTo : List (Nat × List wAn) := [(0, b_X1_copyTo_0)]
abbrev ck_X1_copyTo : List wAn → Nat → Bool := w_ckB o_X1_copyTo RX1 vwCl 3 cX1_copyTo ct_X1_copyTo
theorem cq_X1_copyTo : q_X1_copyTo.all (fun q => ck_X1_copyTo q.2 q.1) = true := by decide +kernel
def o_X1_ferryCount : List Cond := [.fieldLink RX1 9 RX1 "numbers" "[I"] ++ wsX10
theorem oi_X1_ferryCount : ∀ w ∈ o_X1_ferryCount, w ∈ wGT := wGT_of _ [46, 47] (by decide +kernel) (by decide +kernel)
def ct_X1_ferryCount : List (Instr × Nat) := []
abbrev rm_X1_ferryCount : Room := { frames := 0, cells := 0, slots := 0, locals := 0 }
def b_X1_ferryCount_0 : List wAn := [(.aload_n 0, 1, 0, 0, 0), (.getfield 9, 3, 0, 1, 0), (.iconst 0, 1, 0, 0, 0), (.iaload, 1, 1, 0, 0), (.ireturn, 1, 0, 0, 0)]
def q_X1_ferryCount : List (Nat × List wAn) := [(0, b_X1_ferryCount_0)]
abbrev ck_X1_ferryCount : List wAn → Nat → Bool := w_ckB o_X1_ferryCount RX1 vwCl 1 cX1_ferryCount ct_X1_ferryCount
theorem cq_X1_ferryCount : q_X1_ferryCount.all (fun q => ck_X1_ferryCount q.2 q.1) = true := by decide +kernel
def o_X1_settingValue : List Cond := [.fieldLink RX1 9 RX1 "numbers" "[I"] ++ wsX10
theorem oi_X1_settingValue : ∀ w ∈ o_X1_settingValue, w ∈ wGT := wGT_of _ [46, 47] (by decide +kernel) (by decide +kernel)
def ct_X1_settingValue : List (Instr × Nat) := []
abbrev rm_X1_settingValue : Room := { frames := 0, cells := 0, slots := 0, locals := 0 }
def b_X1_settingValue_0 : List wAn := [(.aload_n 0, 1, 0, 0, 0), (.getfield 9, 3, 0, 1, 0), (.iconst 1, 1, 0, 0, 0), (.iload_n 1, 1, 0, 0, 0), (.iadd, 1, 0, 0, 0), (.iaload, 1, 1, 0, 0), (.ireturn, 1, 0, 0, 0)]
def q_X1_settingValue : List (Nat × List wAn) := [(0, b_X1_settingValue_0)]
abbrev ck_X1_settingValue : List wAn → Nat → Bool := w_ckB o_X1_settingValue RX1 vwCl 2 cX1_settingValue ct_X1_settingValue
theorem cq_X1_settingValue : q_X1_settingValue.all (fun q => ck_X1_settingValue q.2 q.1) = true := by decide +kernel
def o_X1_changeSetting : List Cond := [.fieldLink RX1 9 RX1 "numbers" "[I"] ++ wsX10
theorem oi_X1_changeSetting : ∀ w ∈ o_X1_changeSetting, w ∈ wGT := wGT_of _ [46, 47] (by decide +kernel) (by decide +kernel)
def ct_X1_changeSetting : List (Instr × Nat) := []
abbrev rm_X1_changeSetting : Room := { frames := 0, cells := 0, slots := 0, locals := 0 }
def b_X1_changeSetting_0 : List wAn := [(.aload_n 0, 1, 0, 0, 0), (.getfield 9, 3, 0, 1, 0), (.iconst 1, 1, 0, 0, 0), (.iload_n 1, 1, 0, 0, 0), (.iadd, 1, 0, 0, 0), (.iload_n 2, 1, 0, 0, 0), (.iastore, 1, 1, 0, 0), (.return_, 1, 0, 0, 0)]
def q_X1_changeSetting : List (Nat × List wAn) := [(0, b_X1_changeSetting_0)]
abbrev ck_X1_changeSetting : List wAn → Nat → Bool := w_ckB o_X1_changeSetting RX1 vwCl 3 cX1_changeSetting ct_X1_changeSetting
theorem cq_X1_changeSetting : q_X1_changeSetting.all (fun q => ck_X1_changeSetting q.2 q.1) = true := by decide +kernel
def o_X1_ferryNumber : List Cond := [.fieldLink RX1 9 RX1 "numbers" "[I"] ++ wsX10
theorem oi_X1_ferryNumber : ∀ w ∈ o_X1_ferryNumber, w ∈ wGT := wGT_of _ [46, 47] (by decide +kernel) (by decide +kernel)
def ct_X1_ferryNumber : List (Instr × Nat) := []
abbrev rm_X1_ferryNumber : Room := { frames := 0, cells := 0, slots := 0, locals := 0 }
def b_X1_ferryNumber_0 : List wAn := [(.aload_n 0, 1, 0, 0, 0), (.getfield 9, 3, 0, 1, 0), (.bipush 23, 2, 0, 0, 0), (.iload_n 1, 1, 0, 0, 0), (.bipush 9, 2, 0, 0, 0), (.imul, 1, 0, 0, 0), (.iadd, 1, 0, 0, 0), (.iload_n 2, 1, 0, 0, 0), (.iadd, 1, 0, 0, 0), (.iaload, 1, 1, 0, 0), (.ireturn, 1, 0, 0, 0)]
def q_X1_ferryNumber : List (Nat × List wAn) := [(0, b_X1_ferryNumber_0)]
abbrev ck_X1_ferryNumber : List wAn → Nat → Bool := w_ckB o_X1_ferryNumber RX1 vwCl 3 cX1_ferryNumber ct_X1_ferryNumber
theorem cq_X1_ferryNumber : q_X1_ferryNumber.all (fun q => ck_X1_ferryNumber q.2 q.1) = true := by decide +kernel
def o_X1_changeFerry : List Cond := [.fieldLink RX1 9 RX1 "numbers" "[I"] ++ wsX10
theorem oi_X1_changeFerry : ∀ w ∈ o_X1_changeFerry, w ∈ wGT := wGT_of _ [46, 47] (by decide +kernel) (by decide +kernel)
def ct_X1_changeFerry : List (Instr × Nat) := []
abbrev rm_X1_changeFerry : Room := { frames := 0, cells := 0, slots := 0, locals := 0 }
def b_X1_changeFerry_0 : List wAn := [(.aload_n 0, 1, 0, 0, 0), (.getfield 9, 3, 0, 1, 0), (.bipush 23, 2, 0, 0, 0), (.iload_n 1, 1, 0, 0, 0), (.bipush 9, 2, 0, 0, 0), (.imul, 1, 0, 0, 0), (.iadd, 1, 0, 0, 0), (.iload_n 2, 1, 0, 0, 0), (.iadd, 1, 0, 0, 0), (.iload_n 3, 1, 0, 0, 0), (.iastore, 1, 1, 0, 0), (.return_, 1, 0, 0, 0)]
def q_X1_changeFerry : List (Nat × List wAn) := [(0, b_X1_changeFerry_0)]
abbrev ck_X1_changeFerry : List wAn → Nat → Bool := w_ckB o_X1_changeFerry RX1 vwCl 4 cX1_changeFerry ct_X1_changeFerry
theorem cq_X1_changeFerry : q_X1_changeFerry.all (fun q => ck_X1_changeFerry q.2 q.1) = true := by decide +kernel
def o_X1_travellerNumber : List Cond := [.fieldLink RX1 9 RX1 "numbers" "[I"] ++ wsX10
theorem oi_X1_travellerNumber : ∀ w ∈ o_X1_travellerNumber, w ∈ wGT := wGT_of _ [46, 47] (by decide +kernel) (by decide +kernel)
def ct_X1_travellerNumber : List (Instr × Nat) := []
abbrev rm_X1_travellerNumber : Room := { frames := 0, cells := 0, slots := 0, locals := 0 }
def b_X1_travellerNumber_0 : List wAn := [(.aload_n 0, 1, 0, 0, 0), (.getfield 9, 3, 0, 1, 0), (.iconst 3, 1, 0, 0, 0), (.iload_n 1, 1, 0, 0, 0), (.iconst 5, 1, 0, 0, 0), (.imul, 1, 0, 0, 0), (.iadd, 1, 0, 0, 0), (.iload_n 2, 1, 0, 0, 0), (.iadd, 1, 0, 0, 0), (.iaload, 1, 1, 0, 0), (.ireturn, 1, 0, 0, 0)]
def q_X1_travellerNumber : List (Nat × List wAn) := [(0, b_X1_travellerNumber_0)]
abbrev ck_X1_travellerNumber : List wAn → Nat → Bool := w_ckB o_X1_travellerNumber RX1 vwCl 3 cX1_travellerNumber ct_X1_travellerNumber
theorem cq_X1_travellerNumber : q_X1_travellerNumber.all (fun q => ck_X1_travellerNumber q.2 q.1) = true := by decide +kernel
def o_X1_changeTraveller : List Cond := [.fieldLink RX1 9 RX1 "numbers" "[I"] ++ wsX10
theorem oi_X1_changeTraveller : ∀ w ∈ o_X1_changeTraveller, w ∈ wGT := wGT_of _ [46, 47] (by decide +kernel) (by decide +kernel)
def ct_X1_changeTraveller : List (Instr × Nat) := []
abbrev rm_X1_changeTraveller : Room := { frames := 0, cells := 0, slots := 0, locals := 0 }
def b_X1_changeTraveller_0 : List wAn := [(.aload_n 0, 1, 0, 0, 0), (.getfield 9, 3, 0, 1, 0), (.iconst 3, 1, 0, 0, 0), (.iload_n 1, 1, 0, 0, 0), (.iconst 5, 1, 0, 0, 0), (.imul, 1, 0, 0, 0), (.iadd, 1, 0, 0, 0), (.iload_n 2, 1, 0, 0, 0), (.iadd, 1, 0, 0, 0), (.iload_n 3, 1, 0, 0, 0), (.iastore, 1, 1, 0, 0), (.return_, 1, 0, 0, 0)]
def q_X1_changeTraveller : List (Nat × List wAn) := [(0, b_X1_changeTraveller_0)]
abbrev ck_X1_changeTraveller : List wAn → Nat → Bool := w_ckB o_X1_changeTraveller RX1 vwCl 4 cX1_changeTraveller ct_X1_changeTraveller
theorem cq_X1_changeTraveller : q_X1_changeTraveller.all (fun q => ck_X1_changeTraveller q.2 q.1) = true := by decide +kernel
def o_X1_sumOfTravellers : List Cond := [.methodLink RX1 21 yX1_travellerNumber, .instanceMethod yX1_travellerNumber, .selects RX1 yX1_travellerNumber yX1_travellerNumber, .initialized RX1, .code yX1_travellerNumber cX1_travellerNumber 3 (some .int)]
theorem oi_X1_sumOfTravellers : ∀ w ∈ o_X1_sumOfTravellers, w ∈ wGT := wGT_of _ [227, 228, 229, 20, 230] (by decide +kernel) (by decide +kernel)
def ct_X1_sumOfTravellers : List (Instr × Nat) := [(.invokevirtual 21, 3)]
abbrev rm_X1_sumOfTravellers : Room := { frames := 1, cells := 0, slots := 0, locals := 22 }
def b_X1_sumOfTravellers_0 : List wAn := [(.iconst 0, 1, 0, 0, 0), (.istore_n 2, 1, 0, 0, 0), (.iconst 0, 1, 0, 0, 0), (.istore_n 3, 1, 0, 0, 0)]
def b_X1_sumOfTravellers_4 : List wAn := [(.iload_n 3, 1, 0, 0, 0), (.iconst 4, 1, 0, 0, 0), (.if_icmp .ge 18, 3, 24, 0, 0), (.iload_n 2, 1, 0, 0, 0), (.aload_n 0, 1, 0, 0, 0), (.iload_n 3, 1, 0, 0, 0), (.iload_n 1, 1, 0, 0, 0), (.invokevirtual 21, 3, 0, 0, 3), (.iadd, 1, 0, 0, 0), (.istore_n 2, 1, 0, 0, 0), (.iinc 3 1, 3, 0, 0, 0), (.goto (-17), 3, 4, 0, 0)]
def b_X1_sumOfTravellers_24 : List wAn := [(.iload_n 2, 1, 0, 0, 0), (.ireturn, 1, 0, 0, 0)]
def q_X1_sumOfTravellers : List (Nat × List wAn) := [(0, b_X1_sumOfTravellers_0), (4, b_X1_sumOfTravellers_4), (24, b_X1_sumOfTravellers_24)]
abbrev ck_X1_sumOfTravellers : List wAn → Nat → Bool := w_ckB o_X1_sumOfTravellers RX1 vwCl 4 cX1_sumOfTravellers ct_X1_sumOfTravellers
theorem cq_X1_sumOfTravellers : q_X1_sumOfTravellers.all (fun q => ck_X1_sumOfTravellers q.2 q.1) = true := by decide +kernel
def o_X1_tell : List Cond := [.fieldLink RX1 9 RX1 "numbers" "[I", .methodLink RX1 25 yX1_changeFerry, .instanceMethod yX1_changeFerry, .selects RX1 yX1_changeFerry yX1_changeFerry, .initialized RX1, .code yX1_changeFerry cX1_changeFerry 4 none] ++ wsX10
theorem oi_X1_tell : ∀ w ∈ o_X1_tell, w ∈ wGT := wGT_of _ [46, 298, 299, 300, 20, 301, 47] (by decide +kernel) (by decide +kernel)
def ct_X1_tell : List (Instr × Nat) := [(.invokevirtual 25, 4)]
abbrev rm_X1_tell : Room := { frames := 1, cells := 0, slots := 0, locals := 23 }
def b_X1_tell_0 : List wAn := [(.aload_n 0, 1, 0, 0, 0), (.getfield 9, 3, 0, 1, 0), (.iconst 0, 1, 0, 0, 0), (.iaload, 1, 1, 0, 0), (.istore 8, 2, 0, 0, 0), (.iload 8, 2, 0, 0, 0), (.bipush 14, 2, 0, 0, 0), (.if_icmp .lt 4, 3, 16, 0, 0), (.return_, 1, 0, 0, 0)]
def b_X1_tell_16 : List wAn := [(.aload_n 0, 1, 0, 0, 0), (.iload 8, 2, 0, 0, 0), (.iconst 0, 1, 0, 0, 0), (.iload_n 1, 1, 0, 0, 0), (.invokevirtual 25, 3, 0, 0, 4), (.aload_n 0, 1, 0, 0, 0), (.iload 8, 2, 0, 0, 0), (.iconst 1, 1, 0, 0, 0), (.iload_n 2, 1, 0, 0, 0), (.invokevirtual 25, 3, 0, 0, 4), (.aload_n 0, 1, 0, 0, 0), (.iload 8, 2, 0, 0, 0), (.iconst 2, 1, 0, 0, 0), (.iload_n 3, 1, 0, 0, 0), (.invokevirtual 25, 3, 0, 0, 4), (.aload_n 0, 1, 0, 0, 0), (.iload 8, 2, 0, 0, 0), (.iconst 3, 1, 0, 0, 0), (.iload 4, 2, 0, 0, 0), (.invokevirtual 25, 3, 0, 0, 4), (.aload_n 0, 1, 0, 0, 0), (.iload 8, 2, 0, 0, 0), (.iconst 4, 1, 0, 0, 0), (.iload 5, 2, 0, 0, 0), (.invokevirtual 25, 3, 0, 0, 4), (.aload_n 0, 1, 0, 0, 0), (.iload 8, 2, 0, 0, 0), (.iconst 5, 1, 0, 0, 0), (.iload 6, 2, 0, 0, 0), (.invokevirtual 25, 3, 0, 0, 4), (.aload_n 0, 1, 0, 0, 0), (.iload 8, 2, 0, 0, 0), (.bipush 6, 2, 0, 0, 0), (.iload 7, 2, 0, 0, 0), (.invokevirtual 25, 3, 0, 0, 4), (.aload_n 0, 1, 0, 0, 0), (.iload 8, 2, 0, 0, 0), (.bipush 7, 2, 0, 0, 0), (.iconst 0, 1, 0, 0, 0), (.invokevirtual 25, 3, 0, 0, 4), (.aload_n 0, 1, 0, 0, 0), (.iload 8, 2, 0, 0, 0), (.bipush 8, 2, 0, 0, 0), (.iconst 0, 1, 0, 0, 0), (.invokevirtual 25, 3, 0, 0, 4), (.aload_n 0, 1, 0, 0, 0), (.getfield 9, 3, 0, 1, 0), (.iconst 0, 1, 0, 0, 0), (.iload 8, 2, 0, 0, 0), (.iconst 1, 1, 0, 0, 0), (.iadd, 1, 0, 0, 0), (.iastore, 1, 1, 0, 0), (.return_, 1, 0, 0, 0)]
def q_X1_tell : List (Nat × List wAn) := [(0, b_X1_tell_0), (16, b_X1_tell_16)]
abbrev ck_X1_tell : List wAn → Nat → Bool := w_ckB o_X1_tell RX1 vwCl 9 cX1_tell ct_X1_tell
theorem cq_X1_tell : q_X1_tell.all (fun q => ck_X1_tell q.2 q.1) = true := by decide +kernel
def o_X1_forget : List Cond := [.fieldLink RX1 9 RX1 "numbers" "[I"] ++ wsX10
theorem oi_X1_forget : ∀ w ∈ o_X1_forget, w ∈ wGT := wGT_of _ [46, 47] (by decide +kernel) (by decide +kernel)
def ct_X1_forget : List (Instr × Nat) := [(.invokestatic 15, 5)]
abbrev rm_X1_forget : Room := { frames := 1, cells := 0, slots := 0, locals := 60 }
def b_X1_forget_0 : List wAn := [(.aload_n 0, 1, 0, 0, 0), (.getfield 9, 3, 0, 1, 0), (.iconst 0, 1, 0, 0, 0), (.iaload, 1, 1, 0, 0), (.iconst 1, 1, 0, 0, 0), (.isub, 1, 0, 0, 0), (.istore_n 2, 1, 0, 0, 0), (.bipush 23, 2, 0, 0, 0), (.iload_n 1, 1, 0, 0, 0), (.bipush 9, 2, 0, 0, 0), (.imul, 1, 0, 0, 0), (.iadd, 1, 0, 0, 0), (.istore_n 3, 1, 0, 0, 0), (.iload_n 1, 1, 0, 0, 0), (.iload_n 2, 1, 0, 0, 0), (.if_icmp .ge 25, 3, 44, 0, 0), (.aload_n 0, 1, 0, 0, 0), (.getfield 9, 3, 0, 1, 0), (.iload_n 3, 1, 0, 0, 0), (.bipush 9, 2, 0, 0, 0), (.iadd, 1, 0, 0, 0), (.aload_n 0, 1, 0, 0, 0), (.getfield 9, 3, 0, 1, 0), (.iload_n 3, 1, 0, 0, 0), (.iload_n 2, 1, 0, 0, 0), (.iload_n 1, 1, 0, 0, 0), (.isub, 1, 0, 0, 0), (.bipush 9, 2, 0, 0, 0), (.imul, 1, 0, 0, 0), (.invokestatic 15, 3, 0, 0, 5)]
def b_X1_forget_44 : List wAn := [(.aload_n 0, 1, 0, 0, 0), (.getfield 9, 3, 0, 1, 0), (.iconst 0, 1, 0, 0, 0), (.iload_n 2, 1, 0, 0, 0), (.iastore, 1, 1, 0, 0), (.return_, 1, 0, 0, 0)]
def q_X1_forget : List (Nat × List wAn) := [(0, b_X1_forget_0), (44, b_X1_forget_44)]
abbrev ck_X1_forget : List wAn → Nat → Bool := w_ckB o_X1_forget RX1 vwCl 4 cX1_forget ct_X1_forget
theorem cq_X1_forget : q_X1_forget.all (fun q => ck_X1_forget q.2 q.1) = true := by decide +kernel
def o_X1_price : List Cond := [.fieldLink RX1 9 RX1 "numbers" "[I", .methodLink RX1 41 yX1_minuteOfHour, .instanceMethod yX1_minuteOfHour, .selects RX1 yX1_minuteOfHour yX1_minuteOfHour, .initialized RX1, .code yX1_minuteOfHour cX1_minuteOfHour 3 (some .int)] ++ wsX10
theorem oi_X1_price : ∀ w ∈ o_X1_price, w ∈ wGT := wGT_of _ [46, 359, 361, 7, 20, 362, 47] (by decide +kernel) (by decide +kernel)
def ct_X1_price : List (Instr × Nat) := [(.invokevirtual 41, 3)]
abbrev rm_X1_price : Room := { frames := 1, cells := 0, slots := 0, locals := 22 }
def b_X1_price_0 : List wAn := [(.aload_n 0, 1, 0, 0, 0), (.getfield 9, 3, 0, 1, 0), (.bipush 23, 2, 0, 0, 0), (.iload_n 1, 1, 0, 0, 0), (.bipush 9, 2, 0, 0, 0), (.imul, 1, 0, 0, 0), (.iadd, 1, 0, 0, 0), (.iconst 5, 1, 0, 0, 0), (.iadd, 1, 0, 0, 0), (.iaload, 1, 1, 0, 0), (.istore_n 3, 1, 0, 0, 0), (.aload_n 0, 1, 0, 0, 0), (.iload_n 1, 1, 0, 0, 0), (.iload_n 2, 1, 0, 0, 0), (.invokevirtual 41, 3, 0, 0, 3), (.aload_n 0, 1, 0, 0, 0), (.getfield 9, 3, 0, 1, 0), (.iconst 2, 1, 0, 0, 0), (.iaload, 1, 1, 0, 0), (.if_icmp .ge 9, 3, 36, 0, 0), (.iconst 2, 1, 0, 0, 0), (.iload_n 3, 1, 0, 0, 0), (.imul, 1, 0, 0, 0), (.goto 4, 3, 37, 0, 0)]
def b_X1_price_36 : List wAn := [(.iload_n 3, 1, 0, 0, 0)]
def b_X1_price_37 : List wAn := [(.ireturn, 1, 0, 0, 0)]
def q_X1_price : List (Nat × List wAn) := [(0, b_X1_price_0), (36, b_X1_price_36), (37, b_X1_price_37)]
abbrev ck_X1_price : List wAn → Nat → Bool := w_ckB o_X1_price RX1 vwCl 4 cX1_price ct_X1_price
theorem cq_X1_price : q_X1_price.all (fun q => ck_X1_price q.2 q.1) = true := by decide +kernel
def o_X1_minuteOfHour : List Cond := [.fieldLink RX1 9 RX1 "numbers" "[I"] ++ wsX10
theorem oi_X1_minuteOfHour : ∀ w ∈ o_X1_minuteOfHour, w ∈ wGT := wGT_of _ [46, 47] (by decide +kernel) (by decide +kernel)
def ct_X1_minuteOfHour : List (Instr × Nat) := []
abbrev rm_X1_minuteOfHour : Room := { frames := 0, cells := 0, slots := 0, locals := 0 }
def b_X1_minuteOfHour_0 : List wAn := [(.iload_n 2, 1, 0, 0, 0), (.aload_n 0, 1, 0, 0, 0), (.getfield 9, 3, 0, 1, 0), (.bipush 23, 2, 0, 0, 0), (.iload_n 1, 1, 0, 0, 0), (.bipush 9, 2, 0, 0, 0), (.imul, 1, 0, 0, 0), (.iadd, 1, 0, 0, 0), (.bipush 7, 2, 0, 0, 0), (.iadd, 1, 0, 0, 0), (.iaload, 1, 1, 0, 0), (.iadd, 1, 0, 0, 0), (.bipush 60, 2, 0, 0, 0), (.irem, 1, 0, 0, 0), (.ireturn, 1, 0, 0, 0)]
def q_X1_minuteOfHour : List (Nat × List wAn) := [(0, b_X1_minuteOfHour_0)]
abbrev ck_X1_minuteOfHour : List wAn → Nat → Bool := w_ckB o_X1_minuteOfHour RX1 vwCl 3 cX1_minuteOfHour ct_X1_minuteOfHour
theorem cq_X1_minuteOfHour : q_X1_minuteOfHour.all (fun q => ck_X1_minuteOfHour q.2 q.1) = true := by decide +kernel
def o_X1_nextLeaving : List Cond := [.methodLink RX1 44 yX1_nextOnTimetable, .instanceMethod yX1_nextOnTimetable, .selects RX1 yX1_nextOnTimetable yX1_nextOnTimetable, .initialized RX1, .code yX1_nextOnTimetable cX1_nextOnTimetable 6 (some .int), .methodLink RX1 47 yX1_isCancelled, .instanceMethod yX1_isCancelled, .selects RX1 yX1_isCancelled yX1_isCancelled, .code yX1_isCancelled cX1_isCancelled 5 (some .boolean), .methodLink RX1 51 yX1_sinceTurn, .instanceMethod yX1_sinceTurn, .selects RX1 yX1_sinceTurn yX1_sinceTurn, .code yX1_sinceTurn cX1_sinceTurn 2 (some .int)]
theorem oi_X1_nextLeaving : ∀ w ∈ o_X1_nextLeaving, w ∈ wGT := wGT_of _ [317, 319, 4, 20, 320, 321, 323, 5, 324, 325, 327, 6, 328] (by decide +kernel) (by decide +kernel)
def ct_X1_nextLeaving : List (Instr × Nat) := [(.invokevirtual 44, 3), (.invokevirtual 47, 3), (.invokevirtual 51, 2)]
abbrev rm_X1_nextLeaving : Room := { frames := 1, cells := 0, slots := 0, locals := 25 }
def b_X1_nextLeaving_0 : List wAn := [(.aload_n 0, 1, 0, 0, 0), (.iload_n 1, 1, 0, 0, 0), (.iload_n 2, 1, 0, 0, 0), (.invokevirtual 44, 3, 0, 0, 3), (.istore_n 3, 1, 0, 0, 0), (.aload_n 0, 1, 0, 0, 0), (.iload_n 1, 1, 0, 0, 0), (.iload_n 3, 1, 0, 0, 0), (.invokevirtual 47, 3, 1, 0, 3), (.ifCond .eq 20, 3, 33, 0, 0), (.aload_n 0, 1, 0, 0, 0), (.iload_n 1, 1, 0, 0, 0), (.iload_n 3, 1, 0, 0, 0), (.aload_n 0, 1, 0, 0, 0), (.iload_n 3, 1, 0, 0, 0), (.invokevirtual 51, 3, 2, 0, 2), (.isub, 1, 0, 0, 0), (.sipush 360, 3, 0, 0, 0), (.iadd, 1, 0, 0, 0), (.invokevirtual 44, 3, 0, 0, 3), (.istore_n 3, 1, 0, 0, 0)]
def b_X1_nextLeaving_33 : List wAn := [(.iload_n 3, 1, 0, 0, 0), (.sipush 1439, 3, 0, 0, 0), (.if_icmp .le 7, 3, 44, 0, 0), (.iconst (-1), 1, 0, 0, 0), (.goto 4, 3, 45, 0, 0)]
def b_X1_nextLeaving_44 : List wAn := [(.iload_n 3, 1, 0, 0, 0)]
def b_X1_nextLeaving_45 : List wAn := [(.ireturn, 1, 0, 0, 0)]
def q_X1_nextLeaving : List (Nat × List wAn) := [(0, b_X1_nextLeaving_0), (33, b_X1_nextLeaving_33), (44, b_X1_nextLeaving_44), (45, b_X1_nextLeaving_45)]
abbrev ck_X1_nextLeaving : List wAn → Nat → Bool := w_ckB o_X1_nextLeaving RX1 vwCl 4 cX1_nextLeaving ct_X1_nextLeaving
theorem cq_X1_nextLeaving : q_X1_nextLeaving.all (fun q => ck_X1_nextLeaving q.2 q.1) = true := by decide +kernel
def o_X1_nextCheapLeaving : List Cond := [.fieldLink RX1 9 RX1 "numbers" "[I", .methodLink RX1 29 yX1_nextLeaving, .instanceMethod yX1_nextLeaving, .selects RX1 yX1_nextLeaving yX1_nextLeaving, .initialized RX1, .code yX1_nextLeaving cX1_nextLeaving 4 (some .int), .methodLink RX1 41 yX1_minuteOfHour, .instanceMethod yX1_minuteOfHour, .selects RX1 yX1_minuteOfHour yX1_minuteOfHour, .code yX1_minuteOfHour cX1_minuteOfHour 3 (some .int)] ++ wsX10
theorem oi_X1_nextCheapLeaving : ∀ w ∈ o_X1_nextCheapLeaving, w ∈ wGT := wGT_of _ [46, 425, 314, 315, 20, 316, 359, 361, 7, 362, 47] (by decide +kernel) (by decide +kernel)
def ct_X1_nextCheapLeaving : List (Instr × Nat) := [(.invokevirtual 29, 3), (.invokevirtual 41, 3)]
abbrev rm_X1_nextCheapLeaving : Room := { frames := 2, cells := 0, slots := 0, locals := 48 }
def b_X1_nextCheapLeaving_0 : List wAn := [(.aload_n 0, 1, 0, 0, 0), (.getfield 9, 3, 0, 1, 0), (.iconst 2, 1, 0, 0, 0), (.iaload, 1, 1, 0, 0), (.istore_n 3, 1, 0, 0, 0), (.aload_n 0, 1, 0, 0, 0), (.iload_n 1, 1, 0, 0, 0), (.iload_n 2, 1, 0, 0, 0), (.invokevirtual 29, 3, 0, 0, 3), (.istore 4, 2, 0, 0, 0), (.iconst 0, 1, 0, 0, 0), (.istore 5, 2, 0, 0, 0)]
def b_X1_nextCheapLeaving_18 : List wAn := [(.iload 5, 2, 0, 0, 0), (.sipush 1439, 3, 0, 0, 0), (.if_icmp .gt 47, 3, 70, 0, 0), (.iload 4, 2, 0, 0, 0), (.iconst (-1), 1, 0, 0, 0), (.if_icmp .eq 41, 3, 70, 0, 0), (.aload_n 0, 1, 0, 0, 0), (.iload_n 1, 1, 0, 0, 0), (.iload 4, 2, 0, 0, 0), (.invokevirtual 41, 3, 1, 0, 3), (.istore 6, 2, 0, 0, 0), (.iload 6, 2, 0, 0, 0), (.iload_n 3, 1, 0, 0, 0), (.if_icmp .lt 6, 3, 50, 0, 0), (.iload 4, 2, 0, 0, 0), (.ireturn, 1, 0, 0, 0)]
def b_X1_nextCheapLeaving_50 : List wAn := [(.aload_n 0, 1, 0, 0, 0), (.iload_n 1, 1, 0, 0, 0), (.iload 4, 2, 0, 0, 0), (.iload 6, 2, 0, 0, 0), (.isub, 1, 0, 0, 0), (.iload_n 3, 1, 0, 0, 0), (.iadd, 1, 0, 0, 0), (.invokevirtual 29, 3, 0, 0, 3), (.istore 4, 2, 0, 0, 0), (.iinc 5 1, 3, 0, 0, 0), (.goto (-49), 3, 18, 0, 0)]
def b_X1_nextCheapLeaving_70 : List wAn := [(.iconst (-1), 1, 0, 0, 0), (.ireturn, 1, 0, 0, 0)]
def q_X1_nextCheapLeaving : List (Nat × List wAn) := [(0, b_X1_nextCheapLeaving_0), (18, b_X1_nextCheapLeaving_18), (50, b_X1_nextCheapLeaving_50), (70, b_X1_nextCheapLeaving_70)]
abbrev ck_X1_nextCheapLeaving : List wAn → Nat → Bool := w_ckB o_X1_nextCheapLeaving RX1 vwCl 7 cX1_nextCheapLeaving ct_X1_nextCheapLeaving
theorem cq_X1_nextCheapLeaving : q_X1_nextCheapLeaving.all (fun q => ck_X1_nextCheapLeaving q.2 q.1) = true := by decide +kernel
def o_X1_lastLeaving : List Cond := [.methodLink RX1 55 yJ9_min_7cf53, .static yJ9_min_7cf53, .initialized RJ9, .code yJ9_min_7cf53 cJ9_min_7cf53 2 (some .int), .methodLink RX1 60 yX1_lastOnTimetable, .instanceMethod yX1_lastOnTimetable, .selects RX1 yX1_lastOnTimetable yX1_lastOnTimetable, .initialized RX1, .code yX1_lastOnTimetable cX1_lastOnTimetable 5 (some .int), .methodLink RX1 47 yX1_isCancelled, .instanceMethod yX1_isCancelled, .selects RX1 yX1_isCancelled yX1_isCancelled, .code yX1_isCancelled cX1_isCancelled 5 (some .boolean), .methodLink RX1 51 yX1_sinceTurn, .instanceMethod yX1_sinceTurn, .selects RX1 yX1_sinceTurn yX1_sinceTurn, .code yX1_sinceTurn cX1_sinceTurn 2 (some .int)]
theorem oi_X1_lastLeaving : ∀ w ∈ o_X1_lastLeaving, w ∈ wGT := wGT_of _ [453, 410, 31, 411, 454, 456, 14, 20, 457, 321, 323, 5, 324, 325, 327, 6, 328] (by decide +kernel) (by decide +kernel)
def ct_X1_lastLeaving : List (Instr × Nat) := [(.invokestatic 55, 2), (.invokevirtual 60, 3), (.invokevirtual 47, 3), (.invokevirtual 51, 2)]
abbrev rm_X1_lastLeaving : Room := { frames := 1, cells := 0, slots := 0, locals := 24 }
def b_X1_lastLeaving_0 : List wAn := [(.aload_n 0, 1, 0, 0, 0), (.iload_n 1, 1, 0, 0, 0), (.iload_n 2, 1, 0, 0, 0), (.sipush 1439, 3, 0, 0, 0), (.invokestatic 55, 3, 0, 1, 2), (.invokevirtual 60, 3, 1, 0, 3), (.istore_n 3, 1, 0, 0, 0), (.iload_n 3, 1, 0, 0, 0), (.iconst (-1), 1, 0, 0, 0), (.if_icmp .eq 27, 3, 42, 0, 0), (.aload_n 0, 1, 0, 0, 0), (.iload_n 1, 1, 0, 0, 0), (.iload_n 3, 1, 0, 0, 0), (.invokevirtual 47, 3, 2, 0, 3), (.ifCond .eq 18, 3, 42, 0, 0), (.aload_n 0, 1, 0, 0, 0), (.iload_n 1, 1, 0, 0, 0), (.iload_n 3, 1, 0, 0, 0), (.aload_n 0, 1, 0, 0, 0), (.iload_n 3, 1, 0, 0, 0), (.invokevirtual 51, 3, 3, 0, 2), (.isub, 1, 0, 0, 0), (.iconst 1, 1, 0, 0, 0), (.isub, 1, 0, 0, 0), (.invokevirtual 60, 3, 1, 0, 3), (.istore_n 3, 1, 0, 0, 0)]
def b_X1_lastLeaving_42 : List wAn := [(.iload_n 3, 1, 0, 0, 0), (.ireturn, 1, 0, 0, 0)]
def q_X1_lastLeaving : List (Nat × List wAn) := [(0, b_X1_lastLeaving_0), (42, b_X1_lastLeaving_42)]
abbrev ck_X1_lastLeaving : List wAn → Nat → Bool := w_ckB o_X1_lastLeaving RX1 vwCl 4 cX1_lastLeaving ct_X1_lastLeaving
theorem cq_X1_lastLeaving : q_X1_lastLeaving.all (fun q => ck_X1_lastLeaving q.2 q.1) = true := by decide +kernel
def o_X1_nextOnTimetable : List Cond := [.fieldLink RX1 9 RX1 "numbers" "[I"] ++ wsX10
theorem oi_X1_nextOnTimetable : ∀ w ∈ o_X1_nextOnTimetable, w ∈ wGT := wGT_of _ [46, 47] (by decide +kernel) (by decide +kernel)
def ct_X1_nextOnTimetable : List (Instr × Nat) := []
abbrev rm_X1_nextOnTimetable : Room := { frames := 0, cells := 0, slots := 0, locals := 0 }
def b_X1_nextOnTimetable_0 : List wAn := [(.aload_n 0, 1, 0, 0, 0), (.getfield 9, 3, 0, 1, 0), (.bipush 23, 2, 0, 0, 0), (.iload_n 1, 1, 0, 0, 0), (.bipush 9, 2, 0, 0, 0), (.imul, 1, 0, 0, 0), (.iadd, 1, 0, 0, 0), (.iconst 2, 1, 0, 0, 0), (.iadd, 1, 0, 0, 0), (.iaload, 1, 1, 0, 0), (.istore_n 3, 1, 0, 0, 0), (.aload_n 0, 1, 0, 0, 0), (.getfield 9, 3, 0, 1, 0), (.bipush 23, 2, 0, 0, 0), (.iload_n 1, 1, 0, 0, 0), (.bipush 9, 2, 0, 0, 0), (.imul, 1, 0, 0, 0), (.iadd, 1, 0, 0, 0), (.iconst 3, 1, 0, 0, 0), (.iadd, 1, 0, 0, 0), (.iaload, 1, 1, 0, 0), (.istore 4, 2, 0, 0, 0), (.iload_n 2, 1, 0, 0, 0), (.iload_n 3, 1, 0, 0, 0), (.if_icmp .le 9, 3, 42, 0, 0), (.iload 4, 2, 0, 0, 0), (.iconst 1, 1, 0, 0, 0), (.if_icmp .ge 5, 3, 44, 0, 0)]
def b_X1_nextOnTimetable_42 : List wAn := [(.iload_n 3, 1, 0, 0, 0), (.ireturn, 1, 0, 0, 0)]
def b_X1_nextOnTimetable_44 : List wAn := [(.iload_n 2, 1, 0, 0, 0), (.iload_n 3, 1, 0, 0, 0), (.isub, 1, 0, 0, 0), (.iload 4, 2, 0, 0, 0), (.irem, 1, 0, 0, 0), (.istore 5, 2, 0, 0, 0), (.iload 5, 2, 0, 0, 0), (.ifCond .ne 7, 3, 61, 0, 0), (.iload_n 2, 1, 0, 0, 0), (.goto 10, 3, 68, 0, 0)]
def b_X1_nextOnTimetable_61 : List wAn := [(.iload_n 2, 1, 0, 0, 0), (.iload 5, 2, 0, 0, 0), (.isub, 1, 0, 0, 0), (.iload 4, 2, 0, 0, 0), (.iadd, 1, 0, 0, 0)]
def b_X1_nextOnTimetable_68 : List wAn := [(.ireturn, 1, 0, 0, 0)]
def q_X1_nextOnTimetable : List (Nat × List wAn) := [(0, b_X1_nextOnTimetable_0), (42, b_X1_nextOnTimetable_42), (44, b_X1_nextOnTimetable_44), (61, b_X1_nextOnTimetable_61), (68, b_X1_nextOnTimetable_68)]
abbrev ck_X1_nextOnTimetable : List wAn → Nat → Bool := w_ckB o_X1_nextOnTimetable RX1 vwCl 6 cX1_nextOnTimetable ct_X1_nextOnTimetable
theorem cq_X1_nextOnTimetable : q_X1_nextOnTimetable.all (fun q => ck_X1_nextOnTimetable q.2 q.1) = true := by decide +kernel
def o_X1_lastOnTimetable : List Cond := [.fieldLink RX1 9 RX1 "numbers" "[I"] ++ wsX10
theorem oi_X1_lastOnTimetable : ∀ w ∈ o_X1_lastOnTimetable, w ∈ wGT := wGT_of _ [46, 47] (by decide +kernel) (by decide +kernel)
def ct_X1_lastOnTimetable : List (Instr × Nat) := []
abbrev rm_X1_lastOnTimetable : Room := { frames := 0, cells := 0, slots := 0, locals := 0 }
def b_X1_lastOnTimetable_0 : List wAn := [(.aload_n 0, 1, 0, 0, 0), (.getfield 9, 3, 0, 1, 0), (.bipush 23, 2, 0, 0, 0), (.iload_n 1, 1, 0, 0, 0), (.bipush 9, 2, 0, 0, 0), (.imul, 1, 0, 0, 0), (.iadd, 1, 0, 0, 0), (.iconst 2, 1, 0, 0, 0), (.iadd, 1, 0, 0, 0), (.iaload, 1, 1, 0, 0), (.istore_n 3, 1, 0, 0, 0), (.aload_n 0, 1, 0, 0, 0), (.getfield 9, 3, 0, 1, 0), (.bipush 23, 2, 0, 0, 0), (.iload_n 1, 1, 0, 0, 0), (.bipush 9, 2, 0, 0, 0), (.imul, 1, 0, 0, 0), (.iadd, 1, 0, 0, 0), (.iconst 3, 1, 0, 0, 0), (.iadd, 1, 0, 0, 0), (.iaload, 1, 1, 0, 0), (.istore 4, 2, 0, 0, 0), (.iload_n 2, 1, 0, 0, 0), (.iload_n 3, 1, 0, 0, 0), (.if_icmp .lt 9, 3, 42, 0, 0), (.iload 4, 2, 0, 0, 0), (.iconst 1, 1, 0, 0, 0), (.if_icmp .ge 5, 3, 44, 0, 0)]
def b_X1_lastOnTimetable_42 : List wAn := [(.iconst (-1), 1, 0, 0, 0), (.ireturn, 1, 0, 0, 0)]
def b_X1_lastOnTimetable_44 : List wAn := [(.iload_n 2, 1, 0, 0, 0), (.iload_n 2, 1, 0, 0, 0), (.iload_n 3, 1, 0, 0, 0), (.isub, 1, 0, 0, 0), (.iload 4, 2, 0, 0, 0), (.irem, 1, 0, 0, 0), (.isub, 1, 0, 0, 0), (.ireturn, 1, 0, 0, 0)]
def q_X1_lastOnTimetable : List (Nat × List wAn) := [(0, b_X1_lastOnTimetable_0), (42, b_X1_lastOnTimetable_42), (44, b_X1_lastOnTimetable_44)]
abbrev ck_X1_lastOnTimetable : List wAn → Nat → Bool := w_ckB o_X1_lastOnTimetable RX1 vwCl 5 cX1_lastOnTimetable ct_X1_lastOnTimetable
theorem cq_X1_lastOnTimetable : q_X1_lastOnTimetable.all (fun q => ck_X1_lastOnTimetable q.2 q.1) = true := by decide +kernel
def o_X1_isCancelled : List Cond := [.fieldLink RX1 9 RX1 "numbers" "[I"] ++ wsX10
theorem oi_X1_isCancelled : ∀ w ∈ o_X1_isCancelled, w ∈ wGT := wGT_of _ [46, 47] (by decide +kernel) (by decide +kernel)
def ct_X1_isCancelled : List (Instr × Nat) := []
abbrev rm_X1_isCancelled : Room := { frames := 0, cells := 0, slots := 0, locals := 0 }
def b_X1_isCancelled_0 : List wAn := [(.aload_n 0, 1, 0, 0, 0), (.getfield 9, 3, 0, 1, 0), (.bipush 23, 2, 0, 0, 0), (.iload_n 1, 1, 0, 0, 0), (.bipush 9, 2, 0, 0, 0), (.imul, 1, 0, 0, 0), (.iadd, 1, 0, 0, 0), (.bipush 6, 2, 0, 0, 0), (.iadd, 1, 0, 0, 0), (.iaload, 1, 1, 0, 0), (.istore_n 3, 1, 0, 0, 0), (.iload_n 2, 1, 0, 0, 0), (.aload_n 0, 1, 0, 0, 0), (.getfield 9, 3, 0, 1, 0), (.iconst 1, 1, 0, 0, 0), (.iaload, 1, 1, 0, 0), (.iadd, 1, 0, 0, 0), (.sipush 720, 3, 0, 0, 0), (.irem, 1, 0, 0, 0), (.sipush 360, 3, 0, 0, 0), (.if_icmp .ge 7, 3, 38, 0, 0), (.iconst 1, 1, 0, 0, 0), (.goto 4, 3, 39, 0, 0)]
def b_X1_isCancelled_38 : List wAn := [(.iconst 0, 1, 0, 0, 0)]
def b_X1_isCancelled_39 : List wAn := [(.istore 4, 2, 0, 0, 0), (.iload_n 3, 1, 0, 0, 0), (.iconst 1, 1, 0, 0, 0), (.if_icmp .ne 8, 3, 51, 0, 0), (.iload 4, 2, 0, 0, 0), (.ifCond .eq 13, 3, 61, 0, 0)]
def b_X1_isCancelled_51 : List wAn := [(.iload_n 3, 1, 0, 0, 0), (.iconst 2, 1, 0, 0, 0), (.if_icmp .ne 12, 3, 65, 0, 0), (.iload 4, 2, 0, 0, 0), (.ifCond .eq 7, 3, 65, 0, 0)]
def b_X1_isCancelled_61 : List wAn := [(.iconst 1, 1, 0, 0, 0), (.goto 4, 3, 66, 0, 0)]
def b_X1_isCancelled_65 : List wAn := [(.iconst 0, 1, 0, 0, 0)]
def b_X1_isCancelled_66 : List wAn := [(.ireturn, 1, 0, 0, 0)]
def q_X1_isCancelled : List (Nat × List wAn) := [(0, b_X1_isCancelled_0), (38, b_X1_isCancelled_38), (39, b_X1_isCancelled_39), (51, b_X1_isCancelled_51), (61, b_X1_isCancelled_61), (65, b_X1_isCancelled_65), (66, b_X1_isCancelled_66)]
abbrev ck_X1_isCancelled : List wAn → Nat → Bool := w_ckB o_X1_isCancelled RX1 vwCl 5 cX1_isCancelled ct_X1_isCancelled
theorem cq_X1_isCancelled : q_X1_isCancelled.all (fun q => ck_X1_isCancelled q.2 q.1) = true := by decide +kernel
def o_X1_sinceTurn : List Cond := [.fieldLink RX1 9 RX1 "numbers" "[I"] ++ wsX10
theorem oi_X1_sinceTurn : ∀ w ∈ o_X1_sinceTurn, w ∈ wGT := wGT_of _ [46, 47] (by decide +kernel) (by decide +kernel)
def ct_X1_sinceTurn : List (Instr × Nat) := []
abbrev rm_X1_sinceTurn : Room := { frames := 0, cells := 0, slots := 0, locals := 0 }
def b_X1_sinceTurn_0 : List wAn := [(.iload_n 1, 1, 0, 0, 0), (.aload_n 0, 1, 0, 0, 0), (.getfield 9, 3, 0, 1, 0), (.iconst 1, 1, 0, 0, 0), (.iaload, 1, 1, 0, 0), (.iadd, 1, 0, 0, 0), (.sipush 360, 3, 0, 0, 0), (.irem, 1, 0, 0, 0), (.ireturn, 1, 0, 0, 0)]
def q_X1_sinceTurn : List (Nat × List wAn) := [(0, b_X1_sinceTurn_0)]
abbrev ck_X1_sinceTurn : List wAn → Nat → Bool := w_ckB o_X1_sinceTurn RX1 vwCl 2 cX1_sinceTurn ct_X1_sinceTurn
theorem cq_X1_sinceTurn : q_X1_sinceTurn.all (fun q => ck_X1_sinceTurn q.2 q.1) = true := by decide +kernel
def o_X2_arrivalAt : List Cond := [.fieldLink RX2 9 RX2 "arrivals" "[I"] ++ wsX20
theorem oi_X2_arrivalAt : ∀ w ∈ o_X2_arrivalAt, w ∈ wGT := wGT_of _ [57, 64, 66, 68, 70, 72, 74, 76] (by decide +kernel) (by decide +kernel)
def ct_X2_arrivalAt : List (Instr × Nat) := []
abbrev rm_X2_arrivalAt : Room := { frames := 0, cells := 0, slots := 0, locals := 0 }
def b_X2_arrivalAt_0 : List wAn := [(.aload_n 0, 1, 0, 0, 0), (.getfield 9, 3, 0, 2, 0), (.iload_n 1, 1, 0, 0, 0), (.iaload, 1, 1, 0, 0), (.ireturn, 1, 0, 0, 0)]
def q_X2_arrivalAt : List (Nat × List wAn) := [(0, b_X2_arrivalAt_0)]
abbrev ck_X2_arrivalAt : List wAn → Nat → Bool := w_ckB o_X2_arrivalAt RX2 vwCl 2 cX2_arrivalAt ct_X2_arrivalAt
theorem cq_X2_arrivalAt : q_X2_arrivalAt.all (fun q => ck_X2_arrivalAt q.2 q.1) = true := by decide +kernel
def o_X2_startFrom : List Cond := [.fieldLink RX2 15 RX2 "starts" "[I"] ++ wsX20
theorem oi_X2_startFrom : ∀ w ∈ o_X2_startFrom, w ∈ wGT := wGT_of _ [58, 64, 66, 68, 70, 72, 74, 76] (by decide +kernel) (by decide +kernel)
def ct_X2_startFrom : List (Instr × Nat) := []
abbrev rm_X2_startFrom : Room := { frames := 0, cells := 0, slots := 0, locals := 0 }
def b_X2_startFrom_0 : List wAn := [(.aload_n 0, 1, 0, 0, 0), (.getfield 15, 3, 0, 2, 1), (.iload_n 1, 1, 0, 0, 0), (.iaload, 1, 2, 0, 0), (.ireturn, 1, 0, 0, 0)]
def q_X2_startFrom : List (Nat × List wAn) := [(0, b_X2_startFrom_0)]
abbrev ck_X2_startFrom : List wAn → Nat → Bool := w_ckB o_X2_startFrom RX2 vwCl 2 cX2_startFrom ct_X2_startFrom
theorem cq_X2_startFrom : q_X2_startFrom.all (fun q => ck_X2_startFrom q.2 q.1) = true := by decide +kernel
def o_X2_fareTo : List Cond := [.fieldLink RX2 18 RX2 "fares" "[I"] ++ wsX20
theorem oi_X2_fareTo : ∀ w ∈ o_X2_fareTo, w ∈ wGT := wGT_of _ [59, 64, 66, 68, 70, 72, 74, 76] (by decide +kernel) (by decide +kernel)
def ct_X2_fareTo : List (Instr × Nat) := []
abbrev rm_X2_fareTo : Room := { frames := 0, cells := 0, slots := 0, locals := 0 }
def b_X2_fareTo_0 : List wAn := [(.aload_n 0, 1, 0, 0, 0), (.getfield 18, 3, 0, 2, 2), (.iload_n 1, 1, 0, 0, 0), (.iaload, 1, 3, 0, 0), (.ireturn, 1, 0, 0, 0)]
def q_X2_fareTo : List (Nat × List wAn) := [(0, b_X2_fareTo_0)]
abbrev ck_X2_fareTo : List wAn → Nat → Bool := w_ckB o_X2_fareTo RX2 vwCl 2 cX2_fareTo ct_X2_fareTo
theorem cq_X2_fareTo : q_X2_fareTo.all (fun q => ck_X2_fareTo q.2 q.1) = true := by decide +kernel
def o_X2_islandsWithin : List Cond := [.fieldLink RX2 18 RX2 "fares" "[I"] ++ wsX20
theorem oi_X2_islandsWithin : ∀ w ∈ o_X2_islandsWithin, w ∈ wGT := wGT_of _ [59, 64, 66, 68, 70, 72, 74, 76] (by decide +kernel) (by decide +kernel)
def ct_X2_islandsWithin : List (Instr × Nat) := []
abbrev rm_X2_islandsWithin : Room := { frames := 0, cells := 0, slots := 0, locals := 0 }
def b_X2_islandsWithin_0 : List wAn := [(.iconst 0, 1, 0, 0, 0), (.istore_n 2, 1, 0, 0, 0), (.iconst 0, 1, 0, 0, 0), (.istore_n 3, 1, 0, 0, 0)]
def b_X2_islandsWithin_4 : List wAn := [(.iload_n 3, 1, 0, 0, 0), (.bipush 8, 2, 0, 0, 0), (.if_icmp .ge 35, 3, 42, 0, 0), (.aload_n 0, 1, 0, 0, 0), (.getfield 18, 3, 0, 2, 2), (.iload_n 3, 1, 0, 0, 0), (.iaload, 1, 3, 0, 0), (.iconst (-1), 1, 0, 0, 0), (.if_icmp .eq 19, 3, 36, 0, 0), (.aload_n 0, 1, 0, 0, 0), (.getfield 18, 3, 0, 2, 2), (.iload_n 3, 1, 0, 0, 0), (.iaload, 1, 3, 0, 0), (.iload_n 1, 1, 0, 0, 0), (.if_icmp .gt 9, 3, 36, 0, 0), (.iload_n 2, 1, 0, 0, 0), (.iconst 1, 1, 0, 0, 0), (.iload_n 3, 1, 0, 0, 0), (.ishl, 1, 0, 0, 0), (.ior, 1, 0, 0, 0), (.istore_n 2, 1, 0, 0, 0)]
def b_X2_islandsWithin_36 : List wAn := [(.iinc 3 1, 3, 0, 0, 0), (.goto (-35), 3, 4, 0, 0)]
def b_X2_islandsWithin_42 : List wAn := [(.iload_n 2, 1, 0, 0, 0), (.ireturn, 1, 0, 0, 0)]
def q_X2_islandsWithin : List (Nat × List wAn) := [(0, b_X2_islandsWithin_0), (4, b_X2_islandsWithin_4), (36, b_X2_islandsWithin_36), (42, b_X2_islandsWithin_42)]
abbrev ck_X2_islandsWithin : List wAn → Nat → Bool := w_ckB o_X2_islandsWithin RX2 vwCl 4 cX2_islandsWithin ct_X2_islandsWithin
theorem cq_X2_islandsWithin : q_X2_islandsWithin.all (fun q => ck_X2_islandsWithin q.2 q.1) = true := by decide +kernel
def o_X2_findArrivals : List Cond := [.fieldLink RX2 9 RX2 "arrivals" "[I", .methodLink RX2 34 yJ7_fill_53178, .static yJ7_fill_53178, .initialized RJ7, .code yJ7_fill_53178 cJ7_fill_53178 4 none, .methodLink RX2 40 yX1_ferryCount, .instanceMethod yX1_ferryCount, .selects RX1 yX1_ferryCount yX1_ferryCount, .initialized RX1, .code yX1_ferryCount cX1_ferryCount 1 (some .int), .methodLink RX2 46 yX2_comesSooner, .instanceMethod yX2_comesSooner, .selects RX2 yX2_comesSooner yX2_comesSooner, .initialized RX2, .code yX2_comesSooner cX2_comesSooner 7 (some .boolean)] ++ wsX20
theorem oi_X2_findArrivals : ∀ w ∈ o_X2_findArrivals, w ∈ wGT := wGT_of _ [57, 374, 375, 30, 376, 377, 220, 221, 20, 222, 378, 380, 8, 21, 381, 64, 66, 68, 70, 72, 74, 76] (by decide +kernel) (by decide +kernel)
def ct_X2_findArrivals : List (Instr × Nat) := [(.invokestatic 34, 2), (.invokevirtual 40, 1), (.invokevirtual 46, 3)]
abbrev rm_X2_findArrivals : Room := { frames := 3, cells := 0, slots := 0, locals := 74 }
def b_X2_findArrivals_0 : List wAn := [(.aload_n 0, 1, 0, 0, 0), (.getfield 9, 3, 0, 2, 0), (.iconst (-1), 1, 0, 0, 0), (.invokestatic 34, 3, 0, 101, 2), (.aload_n 0, 1, 0, 0, 0), (.getfield 9, 3, 0, 2, 0), (.iload_n 2, 1, 0, 0, 0), (.iload_n 3, 1, 0, 0, 0), (.iastore, 1, 1, 0, 0), (.iconst 1, 1, 0, 0, 0), (.istore 4, 2, 0, 0, 0), (.iconst 1, 1, 0, 0, 0), (.istore 5, 2, 0, 0, 0)]
def b_X2_findArrivals_21 : List wAn := [(.iload 5, 2, 0, 0, 0), (.bipush 8, 2, 0, 0, 0), (.if_icmp .ge 48, 3, 73, 0, 0), (.iload 4, 2, 0, 0, 0), (.ifCond .eq 43, 3, 73, 0, 0), (.iconst 0, 1, 0, 0, 0), (.istore 4, 2, 0, 0, 0), (.iconst 0, 1, 0, 0, 0), (.istore 6, 2, 0, 0, 0)]
def b_X2_findArrivals_39 : List wAn := [(.iload 6, 2, 0, 0, 0), (.aload_n 1, 1, 0, 0, 0), (.invokevirtual 40, 3, 1, 702, 1), (.if_icmp .ge 22, 3, 67, 0, 0), (.aload_n 0, 1, 0, 0, 0), (.aload_n 1, 1, 0, 0, 0), (.iload 6, 2, 0, 0, 0), (.invokevirtual 46, 3, 2, 0, 3), (.ifCond .eq 6, 3, 61, 0, 0), (.iconst 1, 1, 0, 0, 0), (.istore 4, 2, 0, 0, 0)]
def b_X2_findArrivals_61 : List wAn := [(.iinc 6 1, 3, 0, 0, 0), (.goto (-25), 3, 39, 0, 0)]
def b_X2_findArrivals_67 : List wAn := [(.iinc 5 1, 3, 0, 0, 0), (.goto (-49), 3, 21, 0, 0)]
def b_X2_findArrivals_73 : List wAn := [(.return_, 1, 0, 0, 0)]
def q_X2_findArrivals : List (Nat × List wAn) := [(0, b_X2_findArrivals_0), (21, b_X2_findArrivals_21), (39, b_X2_findArrivals_39), (61, b_X2_findArrivals_61), (67, b_X2_findArrivals_67), (73, b_X2_findArrivals_73)]
abbrev ck_X2_findArrivals : List wAn → Nat → Bool := w_ckB o_X2_findArrivals RX2 vwCl 7 cX2_findArrivals ct_X2_findArrivals
theorem cq_X2_findArrivals : q_X2_findArrivals.all (fun q => ck_X2_findArrivals q.2 q.1) = true := by decide +kernel
def o_X2_comesSooner : List Cond := [.fieldLink RX2 9 RX2 "arrivals" "[I", .methodLink RX2 50 yX1_ferryNumber, .instanceMethod yX1_ferryNumber, .selects RX1 yX1_ferryNumber yX1_ferryNumber, .initialized RX1, .code yX1_ferryNumber cX1_ferryNumber 3 (some .int), .methodLink RX2 54 yX1_nextLeaving, .instanceMethod yX1_nextLeaving, .selects RX1 yX1_nextLeaving yX1_nextLeaving, .code yX1_nextLeaving cX1_nextLeaving 4 (some .int)] ++ wsX20
theorem oi_X2_comesSooner : ∀ w ∈ o_X2_comesSooner, w ∈ wGT := wGT_of _ [57, 382, 340, 341, 20, 342, 383, 314, 315, 316, 64, 66, 68, 70, 72, 74, 76] (by decide +kernel) (by decide +kernel)
def ct_X2_comesSooner : List (Instr × Nat) := [(.invokevirtual 50, 3), (.invokevirtual 54, 3)]
abbrev rm_X2_comesSooner : Room := { frames := 2, cells := 0, slots := 0, locals := 48 }
def b_X2_comesSooner_0 : List wAn := [(.aload_n 1, 1, 0, 0, 0), (.iload_n 2, 1, 0, 0, 0), (.iconst 0, 1, 0, 0, 0), (.invokevirtual 50, 3, 0, 702, 3), (.istore_n 3, 1, 0, 0, 0), (.aload_n 1, 1, 0, 0, 0), (.iload_n 2, 1, 0, 0, 0), (.iconst 1, 1, 0, 0, 0), (.invokevirtual 50, 3, 0, 702, 3), (.istore 4, 2, 0, 0, 0), (.aload_n 0, 1, 0, 0, 0), (.getfield 9, 3, 0, 2, 0), (.iload_n 3, 1, 0, 0, 0), (.iaload, 1, 1, 0, 0), (.iconst (-1), 1, 0, 0, 0), (.if_icmp .ne 7, 3, 29, 0, 0), (.iconst (-1), 1, 0, 0, 0), (.goto 14, 3, 40, 0, 0)]
def b_X2_comesSooner_29 : List wAn := [(.aload_n 1, 1, 0, 0, 0), (.iload_n 2, 1, 0, 0, 0), (.aload_n 0, 1, 0, 0, 0), (.getfield 9, 3, 0, 2, 0), (.iload_n 3, 1, 0, 0, 0), (.iaload, 1, 1, 0, 0), (.invokevirtual 54, 3, 1, 702, 3)]
def b_X2_comesSooner_40 : List wAn := [(.istore 5, 2, 0, 0, 0), (.iload 5, 2, 0, 0, 0), (.iconst (-1), 1, 0, 0, 0), (.if_icmp .ne 5, 3, 50, 0, 0), (.iconst 0, 1, 0, 0, 0), (.ireturn, 1, 0, 0, 0)]
def b_X2_comesSooner_50 : List wAn := [(.iload 5, 2, 0, 0, 0), (.aload_n 1, 1, 0, 0, 0), (.iload_n 2, 1, 0, 0, 0), (.iconst 4, 1, 0, 0, 0), (.invokevirtual 50, 3, 0, 702, 3), (.iadd, 1, 0, 0, 0), (.istore 6, 2, 0, 0, 0), (.aload_n 0, 1, 0, 0, 0), (.getfield 9, 3, 0, 2, 0), (.iload 4, 2, 0, 0, 0), (.iaload, 1, 1, 0, 0), (.iconst (-1), 1, 0, 0, 0), (.if_icmp .eq 17, 3, 86, 0, 0), (.aload_n 0, 1, 0, 0, 0), (.getfield 9, 3, 0, 2, 0), (.iload 4, 2, 0, 0, 0), (.iaload, 1, 1, 0, 0), (.iload 6, 2, 0, 0, 0), (.if_icmp .gt 5, 3, 86, 0, 0), (.iconst 0, 1, 0, 0, 0), (.ireturn, 1, 0, 0, 0)]
def b_X2_comesSooner_86 : List wAn := [(.aload_n 0, 1, 0, 0, 0), (.getfield 9, 3, 0, 2, 0), (.iload 4, 2, 0, 0, 0), (.iload 6, 2, 0, 0, 0), (.iastore, 1, 1, 0, 0), (.iconst 1, 1, 0, 0, 0), (.ireturn, 1, 0, 0, 0)]
def q_X2_comesSooner : List (Nat × List wAn) := [(0, b_X2_comesSooner_0), (29, b_X2_comesSooner_29), (40, b_X2_comesSooner_40), (50, b_X2_comesSooner_50), (86, b_X2_comesSooner_86)]
abbrev ck_X2_comesSooner : List wAn → Nat → Bool := w_ckB o_X2_comesSooner RX2 vwCl 7 cX2_comesSooner ct_X2_comesSooner
theorem cq_X2_comesSooner : q_X2_comesSooner.all (fun q => ck_X2_comesSooner q.2 q.1) = true := by decide +kernel
def o_X2_findStarts : List Cond := [.fieldLink RX2 15 RX2 "starts" "[I", .methodLink RX2 34 yJ7_fill_53178, .static yJ7_fill_53178, .initialized RJ7, .code yJ7_fill_53178 cJ7_fill_53178 4 none, .methodLink RX2 40 yX1_ferryCount, .instanceMethod yX1_ferryCount, .selects RX1 yX1_ferryCount yX1_ferryCount, .initialized RX1, .code yX1_ferryCount cX1_ferryCount 1 (some .int), .methodLink RX2 57 yX2_startsLater, .instanceMethod yX2_startsLater, .selects RX2 yX2_startsLater yX2_startsLater, .initialized RX2, .code yX2_startsLater cX2_startsLater 6 (some .boolean)] ++ wsX20
theorem oi_X2_findStarts : ∀ w ∈ o_X2_findStarts, w ∈ wGT := wGT_of _ [58, 374, 375, 30, 376, 377, 220, 221, 20, 222, 445, 447, 13, 21, 448, 64, 66, 68, 70, 72, 74, 76] (by decide +kernel) (by decide +kernel)
def ct_X2_findStarts : List (Instr × Nat) := [(.invokestatic 34, 2), (.invokevirtual 40, 1), (.invokevirtual 57, 3)]
abbrev rm_X2_findStarts : Room := { frames := 3, cells := 0, slots := 0, locals := 72 }
def b_X2_findStarts_0 : List wAn := [(.aload_n 0, 1, 0, 0, 0), (.getfield 15, 3, 0, 2, 1), (.iconst (-1), 1, 0, 0, 0), (.invokestatic 34, 3, 0, 201, 2), (.aload_n 0, 1, 0, 0, 0), (.getfield 15, 3, 0, 2, 1), (.iload_n 2, 1, 0, 0, 0), (.iload_n 3, 1, 0, 0, 0), (.iastore, 1, 2, 0, 0), (.iconst 1, 1, 0, 0, 0), (.istore 4, 2, 0, 0, 0), (.iconst 1, 1, 0, 0, 0), (.istore 5, 2, 0, 0, 0)]
def b_X2_findStarts_21 : List wAn := [(.iload 5, 2, 0, 0, 0), (.bipush 8, 2, 0, 0, 0), (.if_icmp .ge 48, 3, 73, 0, 0), (.iload 4, 2, 0, 0, 0), (.ifCond .eq 43, 3, 73, 0, 0), (.iconst 0, 1, 0, 0, 0), (.istore 4, 2, 0, 0, 0), (.iconst 0, 1, 0, 0, 0), (.istore 6, 2, 0, 0, 0)]
def b_X2_findStarts_39 : List wAn := [(.iload 6, 2, 0, 0, 0), (.aload_n 1, 1, 0, 0, 0), (.invokevirtual 40, 3, 1, 702, 1), (.if_icmp .ge 22, 3, 67, 0, 0), (.aload_n 0, 1, 0, 0, 0), (.aload_n 1, 1, 0, 0, 0), (.iload 6, 2, 0, 0, 0), (.invokevirtual 57, 3, 2, 0, 3), (.ifCond .eq 6, 3, 61, 0, 0), (.iconst 1, 1, 0, 0, 0), (.istore 4, 2, 0, 0, 0)]
def b_X2_findStarts_61 : List wAn := [(.iinc 6 1, 3, 0, 0, 0), (.goto (-25), 3, 39, 0, 0)]
def b_X2_findStarts_67 : List wAn := [(.iinc 5 1, 3, 0, 0, 0), (.goto (-49), 3, 21, 0, 0)]
def b_X2_findStarts_73 : List wAn := [(.return_, 1, 0, 0, 0)]
def q_X2_findStarts : List (Nat × List wAn) := [(0, b_X2_findStarts_0), (21, b_X2_findStarts_21), (39, b_X2_findStarts_39), (61, b_X2_findStarts_61), (67, b_X2_findStarts_67), (73, b_X2_findStarts_73)]
abbrev ck_X2_findStarts : List wAn → Nat → Bool := w_ckB o_X2_findStarts RX2 vwCl 7 cX2_findStarts ct_X2_findStarts
theorem cq_X2_findStarts : q_X2_findStarts.all (fun q => ck_X2_findStarts q.2 q.1) = true := by decide +kernel
def o_X2_startsLater : List Cond := [.fieldLink RX2 15 RX2 "starts" "[I", .methodLink RX2 50 yX1_ferryNumber, .instanceMethod yX1_ferryNumber, .selects RX1 yX1_ferryNumber yX1_ferryNumber, .initialized RX1, .code yX1_ferryNumber cX1_ferryNumber 3 (some .int), .methodLink RX2 60 yX1_lastLeaving, .instanceMethod yX1_lastLeaving, .selects RX1 yX1_lastLeaving yX1_lastLeaving, .code yX1_lastLeaving cX1_lastLeaving 4 (some .int)] ++ wsX20
theorem oi_X2_startsLater : ∀ w ∈ o_X2_startsLater, w ∈ wGT := wGT_of _ [58, 382, 340, 341, 20, 342, 449, 450, 451, 452, 64, 66, 68, 70, 72, 74, 76] (by decide +kernel) (by decide +kernel)
def ct_X2_startsLater : List (Instr × Nat) := [(.invokevirtual 50, 3), (.invokevirtual 60, 3)]
abbrev rm_X2_startsLater : Room := { frames := 2, cells := 0, slots := 0, locals := 47 }
def b_X2_startsLater_0 : List wAn := [(.aload_n 1, 1, 0, 0, 0), (.iload_n 2, 1, 0, 0, 0), (.iconst 0, 1, 0, 0, 0), (.invokevirtual 50, 3, 0, 702, 3), (.istore_n 3, 1, 0, 0, 0), (.aload_n 1, 1, 0, 0, 0), (.iload_n 2, 1, 0, 0, 0), (.iconst 1, 1, 0, 0, 0), (.invokevirtual 50, 3, 0, 702, 3), (.istore 4, 2, 0, 0, 0), (.aload_n 0, 1, 0, 0, 0), (.getfield 15, 3, 0, 2, 1), (.iload 4, 2, 0, 0, 0), (.iaload, 1, 2, 0, 0), (.iconst (-1), 1, 0, 0, 0), (.if_icmp .ne 5, 3, 28, 0, 0), (.iconst 0, 1, 0, 0, 0), (.ireturn, 1, 0, 0, 0)]
def b_X2_startsLater_28 : List wAn := [(.aload_n 1, 1, 0, 0, 0), (.iload_n 2, 1, 0, 0, 0), (.aload_n 0, 1, 0, 0, 0), (.getfield 15, 3, 0, 2, 1), (.iload 4, 2, 0, 0, 0), (.iaload, 1, 2, 0, 0), (.aload_n 1, 1, 0, 0, 0), (.iload_n 2, 1, 0, 0, 0), (.iconst 4, 1, 0, 0, 0), (.invokevirtual 50, 3, 0, 702, 3), (.isub, 1, 0, 0, 0), (.invokevirtual 60, 3, 1, 702, 3), (.istore 5, 2, 0, 0, 0), (.iload 5, 2, 0, 0, 0), (.aload_n 0, 1, 0, 0, 0), (.getfield 15, 3, 0, 2, 1), (.iload_n 3, 1, 0, 0, 0), (.iaload, 1, 2, 0, 0), (.if_icmp .gt 5, 3, 62, 0, 0), (.iconst 0, 1, 0, 0, 0), (.ireturn, 1, 0, 0, 0)]
def b_X2_startsLater_62 : List wAn := [(.aload_n 0, 1, 0, 0, 0), (.getfield 15, 3, 0, 2, 1), (.iload_n 3, 1, 0, 0, 0), (.iload 5, 2, 0, 0, 0), (.iastore, 1, 2, 0, 0), (.iconst 1, 1, 0, 0, 0), (.ireturn, 1, 0, 0, 0)]
def q_X2_startsLater : List (Nat × List wAn) := [(0, b_X2_startsLater_0), (28, b_X2_startsLater_28), (62, b_X2_startsLater_62)]
abbrev ck_X2_startsLater : List wAn → Nat → Bool := w_ckB o_X2_startsLater RX2 vwCl 6 cX2_startsLater ct_X2_startsLater
theorem cq_X2_startsLater : q_X2_startsLater.all (fun q => ck_X2_startsLater q.2 q.1) = true := by decide +kernel
def o_X2_findFares : List Cond := [.fieldLink RX2 18 RX2 "fares" "[I", .fieldLink RX2 21 RX2 "boardings" "[I", .fieldLink RX2 30 RX2 "nextBoarding" "I", .fieldLink RX2 24 RX2 "comers" "[I", .methodLink RX2 34 yJ7_fill_53178, .static yJ7_fill_53178, .initialized RJ7, .code yJ7_fill_53178 cJ7_fill_53178 4 none, .methodLink RX2 63 yX2_comeTo, .instanceMethod yX2_comeTo, .selects RX2 yX2_comeTo yX2_comeTo, .initialized RX2, .code yX2_comeTo cX2_comeTo 6 none, .methodLink RX2 67 yX2_letCome, .instanceMethod yX2_letCome, .selects RX2 yX2_letCome yX2_letCome, .code yX2_letCome cX2_letCome 5 none, .methodLink RX2 71 yX2_letBoard, .instanceMethod yX2_letBoard, .selects RX2 yX2_letBoard yX2_letBoard, .code yX2_letBoard cX2_letBoard 8 none] ++ wsX20
theorem oi_X2_findFares : ∀ w ∈ o_X2_findFares, w ∈ wGT := wGT_of _ [59, 60, 63, 61, 374, 375, 30, 376, 402, 404, 9, 21, 405, 412, 414, 10, 415, 416, 418, 11, 419, 64, 66, 68, 70, 72, 74, 76] (by decide +kernel) (by decide +kernel)
def ct_X2_findFares : List (Instr × Nat) := [(.invokestatic 34, 2), (.invokevirtual 63, 5), (.invokevirtual 67, 3), (.invokevirtual 71, 4)]
abbrev rm_X2_findFares : Room := { frames := 4, cells := 0, slots := 0, locals := 101 }
def b_X2_findFares_0 : List wAn := [(.aload_n 0, 1, 0, 0, 0), (.getfield 18, 3, 0, 2, 2), (.iconst (-1), 1, 0, 0, 0), (.invokestatic 34, 3, 0, 301, 2), (.aload_n 0, 1, 0, 0, 0), (.getfield 21, 3, 0, 2, 3), (.sipush 1540, 3, 0, 0, 0), (.invokestatic 34, 3, 0, 401, 2), (.aload_n 0, 1, 0, 0, 0), (.sipush 1540, 3, 0, 0, 0), (.putfield 30, 3, 0, 2, 6), (.aload_n 0, 1, 0, 0, 0), (.aload_n 1, 1, 0, 0, 0), (.iload_n 2, 1, 0, 0, 0), (.iload_n 3, 1, 0, 0, 0), (.iconst 0, 1, 0, 0, 0), (.invokevirtual 63, 3, 1, 0, 5), (.iload_n 3, 1, 0, 0, 0), (.istore 5, 2, 0, 0, 0)]
def b_X2_findFares_36 : List wAn := [(.iload 5, 2, 0, 0, 0), (.iload 4, 2, 0, 0, 0), (.if_icmp .gt 47, 3, 87, 0, 0), (.aload_n 0, 1, 0, 0, 0), (.getfield 24, 3, 0, 2, 4), (.iload 5, 2, 0, 0, 0), (.bipush 100, 2, 0, 0, 0), (.irem, 1, 0, 0, 0), (.iaload, 1, 5, 0, 0), (.ifCond .eq 10, 3, 63, 0, 0), (.aload_n 0, 1, 0, 0, 0), (.aload_n 1, 1, 0, 0, 0), (.iload 5, 2, 0, 0, 0), (.invokevirtual 67, 3, 2, 0, 3)]
def b_X2_findFares_63 : List wAn := [(.aload_n 0, 1, 0, 0, 0), (.getfield 30, 3, 0, 2, 6), (.iload 5, 2, 0, 0, 0), (.if_icmp .ne 12, 3, 81, 0, 0), (.aload_n 0, 1, 0, 0, 0), (.aload_n 1, 1, 0, 0, 0), (.iload 5, 2, 0, 0, 0), (.iload 4, 2, 0, 0, 0), (.invokevirtual 71, 3, 3, 0, 4)]
def b_X2_findFares_81 : List wAn := [(.iinc 5 1, 3, 0, 0, 0), (.goto (-48), 3, 36, 0, 0)]
def b_X2_findFares_87 : List wAn := [(.return_, 1, 0, 0, 0)]
def q_X2_findFares : List (Nat × List wAn) := [(0, b_X2_findFares_0), (36, b_X2_findFares_36), (63, b_X2_findFares_63), (81, b_X2_findFares_81), (87, b_X2_findFares_87)]
abbrev ck_X2_findFares : List wAn → Nat → Bool := w_ckB o_X2_findFares RX2 vwCl 6 cX2_findFares ct_X2_findFares
theorem cq_X2_findFares : q_X2_findFares.all (fun q => ck_X2_findFares q.2 q.1) = true := by decide +kernel
def o_X2_letCome : List Cond := [.fieldLink RX2 24 RX2 "comers" "[I", .fieldLink RX2 27 RX2 "comersFares" "[I", .methodLink RX2 63 yX2_comeTo, .instanceMethod yX2_comeTo, .selects RX2 yX2_comeTo yX2_comeTo, .initialized RX2, .code yX2_comeTo cX2_comeTo 6 none] ++ wsX20
theorem oi_X2_letCome : ∀ w ∈ o_X2_letCome, w ∈ wGT := wGT_of _ [61, 62, 402, 404, 9, 21, 405, 64, 66, 68, 70, 72, 74, 76] (by decide +kernel) (by decide +kernel)
def ct_X2_letCome : List (Instr × Nat) := [(.invokevirtual 63, 5)]
abbrev rm_X2_letCome : Room := { frames := 3, cells := 0, slots := 0, locals := 73 }
def b_X2_letCome_0 : List wAn := [(.iload_n 2, 1, 0, 0, 0), (.bipush 100, 2, 0, 0, 0), (.irem, 1, 0, 0, 0), (.istore_n 3, 1, 0, 0, 0), (.iconst 0, 1, 0, 0, 0), (.istore 4, 2, 0, 0, 0)]
def b_X2_letCome_8 : List wAn := [(.iload 4, 2, 0, 0, 0), (.bipush 8, 2, 0, 0, 0), (.if_icmp .ge 43, 3, 55, 0, 0), (.aload_n 0, 1, 0, 0, 0), (.getfield 24, 3, 0, 2, 4), (.iload_n 3, 1, 0, 0, 0), (.iaload, 1, 5, 0, 0), (.iconst 1, 1, 0, 0, 0), (.iload 4, 2, 0, 0, 0), (.ishl, 1, 0, 0, 0), (.iand, 1, 0, 0, 0), (.ifCond .eq 23, 3, 49, 0, 0), (.aload_n 0, 1, 0, 0, 0), (.aload_n 1, 1, 0, 0, 0), (.iload 4, 2, 0, 0, 0), (.iload_n 2, 1, 0, 0, 0), (.aload_n 0, 1, 0, 0, 0), (.getfield 27, 3, 0, 2, 5), (.iload_n 3, 1, 0, 0, 0), (.bipush 8, 2, 0, 0, 0), (.imul, 1, 0, 0, 0), (.iload 4, 2, 0, 0, 0), (.iadd, 1, 0, 0, 0), (.iaload, 1, 6, 0, 0), (.invokevirtual 63, 3, 0, 0, 5)]
def b_X2_letCome_49 : List wAn := [(.iinc 4 1, 3, 0, 0, 0), (.goto (-44), 3, 8, 0, 0)]
def b_X2_letCome_55 : List wAn := [(.aload_n 0, 1, 0, 0, 0), (.getfield 24, 3, 0, 2, 4), (.iload_n 3, 1, 0, 0, 0), (.iconst 0, 1, 0, 0, 0), (.iastore, 1, 5, 0, 0), (.return_, 1, 0, 0, 0)]
def q_X2_letCome : List (Nat × List wAn) := [(0, b_X2_letCome_0), (8, b_X2_letCome_8), (49, b_X2_letCome_49), (55, b_X2_letCome_55)]
abbrev ck_X2_letCome : List wAn → Nat → Bool := w_ckB o_X2_letCome RX2 vwCl 5 cX2_letCome ct_X2_letCome
theorem cq_X2_letCome : q_X2_letCome.all (fun q => ck_X2_letCome q.2 q.1) = true := by decide +kernel
def o_X2_comeTo : List Cond := [.fieldLink RX2 18 RX2 "fares" "[I", .fieldLink RX2 21 RX2 "boardings" "[I", .fieldLink RX2 30 RX2 "nextBoarding" "I", .methodLink RX2 40 yX1_ferryCount, .instanceMethod yX1_ferryCount, .selects RX1 yX1_ferryCount yX1_ferryCount, .initialized RX1, .code yX1_ferryCount cX1_ferryCount 1 (some .int), .methodLink RX2 50 yX1_ferryNumber, .instanceMethod yX1_ferryNumber, .selects RX1 yX1_ferryNumber yX1_ferryNumber, .code yX1_ferryNumber cX1_ferryNumber 3 (some .int), .methodLink RX2 54 yX1_nextLeaving, .instanceMethod yX1_nextLeaving, .selects RX1 yX1_nextLeaving yX1_nextLeaving, .code yX1_nextLeaving cX1_nextLeaving 4 (some .int), .methodLink RX2 75 yX2_orNever, .static yX2_orNever, .initialized RX2, .code yX2_orNever cX2_orNever 1 (some .int), .methodLink RX2 79 yJ9_min_7cf53, .static yJ9_min_7cf53, .initialized RJ9, .code yJ9_min_7cf53 cJ9_min_7cf53 2 (some .int)] ++ wsX20
theorem oi_X2_comeTo : ∀ w ∈ o_X2_comeTo, w ∈ wGT := wGT_of _ [59, 60, 63, 377, 220, 221, 20, 222, 382, 340, 341, 342, 383, 314, 315, 316, 406, 407, 21, 408, 409, 410, 31, 411, 64, 66, 68, 70, 72, 74, 76] (by decide +kernel) (by decide +kernel)
def ct_X2_comeTo : List (Instr × Nat) := [(.invokevirtual 40, 1), (.invokevirtual 50, 3), (.invokevirtual 54, 3), (.invokestatic 75, 1), (.invokestatic 79, 2)]
abbrev rm_X2_comeTo : Room := { frames := 2, cells := 0, slots := 0, locals := 48 }
def b_X2_comeTo_0 : List wAn := [(.aload_n 0, 1, 0, 0, 0), (.getfield 18, 3, 0, 2, 2), (.iload_n 2, 1, 0, 0, 0), (.iaload, 1, 3, 0, 0), (.iconst (-1), 1, 0, 0, 0), (.if_icmp .eq 15, 3, 22, 0, 0), (.aload_n 0, 1, 0, 0, 0), (.getfield 18, 3, 0, 2, 2), (.iload_n 2, 1, 0, 0, 0), (.iaload, 1, 3, 0, 0), (.iload 4, 2, 0, 0, 0), (.if_icmp .gt 4, 3, 22, 0, 0), (.return_, 1, 0, 0, 0)]
def b_X2_comeTo_22 : List wAn := [(.aload_n 0, 1, 0, 0, 0), (.getfield 18, 3, 0, 2, 2), (.iload_n 2, 1, 0, 0, 0), (.iload 4, 2, 0, 0, 0), (.iastore, 1, 3, 0, 0), (.iconst 0, 1, 0, 0, 0), (.istore 5, 2, 0, 0, 0)]
def b_X2_comeTo_33 : List wAn := [(.iload 5, 2, 0, 0, 0), (.aload_n 1, 1, 0, 0, 0), (.invokevirtual 40, 3, 0, 702, 1), (.if_icmp .ge 55, 3, 94, 0, 0), (.aload_n 1, 1, 0, 0, 0), (.iload 5, 2, 0, 0, 0), (.iconst 0, 1, 0, 0, 0), (.invokevirtual 50, 3, 1, 702, 3), (.iload_n 2, 1, 0, 0, 0), (.if_icmp .ne 38, 3, 88, 0, 0), (.aload_n 0, 1, 0, 0, 0), (.getfield 21, 3, 0, 2, 3), (.iload 5, 2, 0, 0, 0), (.aload_n 1, 1, 0, 0, 0), (.iload 5, 2, 0, 0, 0), (.iload_n 3, 1, 0, 0, 0), (.invokevirtual 54, 3, 2, 702, 3), (.invokestatic 75, 3, 3, 1, 1), (.iastore, 1, 4, 0, 0), (.aload_n 0, 1, 0, 0, 0), (.aload_n 0, 1, 0, 0, 0), (.getfield 30, 3, 0, 2, 6), (.aload_n 0, 1, 0, 0, 0), (.getfield 21, 3, 0, 2, 3), (.iload 5, 2, 0, 0, 0), (.iaload, 1, 4, 0, 0), (.invokestatic 79, 3, 4, 1, 2), (.putfield 30, 3, 0, 2, 6)]
def b_X2_comeTo_88 : List wAn := [(.iinc 5 1, 3, 0, 0, 0), (.goto (-58), 3, 33, 0, 0)]
def b_X2_comeTo_94 : List wAn := [(.return_, 1, 0, 0, 0)]
def q_X2_comeTo : List (Nat × List wAn) := [(0, b_X2_comeTo_0), (22, b_X2_comeTo_22), (33, b_X2_comeTo_33), (88, b_X2_comeTo_88), (94, b_X2_comeTo_94)]
abbrev ck_X2_comeTo : List wAn → Nat → Bool := w_ckB o_X2_comeTo RX2 vwCl 6 cX2_comeTo ct_X2_comeTo
theorem cq_X2_comeTo : q_X2_comeTo.all (fun q => ck_X2_comeTo q.2 q.1) = true := by decide +kernel
def o_X2_letBoard : List Cond := [.fieldLink RX2 30 RX2 "nextBoarding" "I", .fieldLink RX2 21 RX2 "boardings" "[I", .fieldLink RX2 18 RX2 "fares" "[I", .methodLink RX2 40 yX1_ferryCount, .instanceMethod yX1_ferryCount, .selects RX1 yX1_ferryCount yX1_ferryCount, .initialized RX1, .code yX1_ferryCount cX1_ferryCount 1 (some .int), .methodLink RX2 84 yX1_price, .instanceMethod yX1_price, .selects RX1 yX1_price yX1_price, .code yX1_price cX1_price 4 (some .int), .methodLink RX2 50 yX1_ferryNumber, .instanceMethod yX1_ferryNumber, .selects RX1 yX1_ferryNumber yX1_ferryNumber, .code yX1_ferryNumber cX1_ferryNumber 3 (some .int), .methodLink RX2 87 yX1_nextCheapLeaving, .instanceMethod yX1_nextCheapLeaving, .selects RX1 yX1_nextCheapLeaving yX1_nextCheapLeaving, .code yX1_nextCheapLeaving cX1_nextCheapLeaving 7 (some .int), .methodLink RX2 75 yX2_orNever, .static yX2_orNever, .initialized RX2, .code yX2_orNever cX2_orNever 1 (some .int), .methodLink RX2 90 yX2_expect, .instanceMethod yX2_expect, .selects RX2 yX2_expect yX2_expect, .code yX2_expect cX2_expect 6 none, .methodLink RX2 79 yJ9_min_7cf53, .static yJ9_min_7cf53, .initialized RJ9, .code yJ9_min_7cf53 cJ9_min_7cf53 2 (some .int)] ++ wsX20
theorem oi_X2_letBoard : ∀ w ∈ o_X2_letBoard, w ∈ wGT := wGT_of _ [63, 60, 59, 377, 220, 221, 20, 222, 420, 356, 357, 358, 382, 340, 341, 342, 421, 422, 423, 424, 406, 407, 21, 408, 426, 428, 12, 429, 409, 410, 31, 411, 64, 66, 68, 70, 72, 74, 76] (by decide +kernel) (by decide +kernel)
def ct_X2_letBoard : List (Instr × Nat) := [(.invokevirtual 40, 1), (.invokevirtual 84, 3), (.invokevirtual 50, 3), (.invokevirtual 87, 3), (.invokestatic 75, 1), (.invokevirtual 90, 4), (.invokestatic 79, 2)]
abbrev rm_X2_letBoard : Room := { frames := 3, cells := 0, slots := 0, locals := 74 }
def b_X2_letBoard_0 : List wAn := [(.aload_n 0, 1, 0, 0, 0), (.sipush 1540, 3, 0, 0, 0), (.putfield 30, 3, 0, 2, 6), (.iconst 0, 1, 0, 0, 0), (.istore 4, 2, 0, 0, 0)]
def b_X2_letBoard_10 : List wAn := [(.iload 4, 2, 0, 0, 0), (.aload_n 1, 1, 0, 0, 0), (.invokevirtual 40, 3, 0, 702, 1), (.if_icmp .ge 141, 3, 157, 0, 0), (.aload_n 0, 1, 0, 0, 0), (.getfield 21, 3, 0, 2, 3), (.iload 4, 2, 0, 0, 0), (.iaload, 1, 4, 0, 0), (.iload_n 2, 1, 0, 0, 0), (.if_icmp .ne 106, 3, 133, 0, 0), (.aload_n 1, 1, 0, 0, 0), (.iload 4, 2, 0, 0, 0), (.iload_n 2, 1, 0, 0, 0), (.invokevirtual 84, 3, 1, 702, 3), (.istore 5, 2, 0, 0, 0), (.iload 5, 2, 0, 0, 0), (.aload_n 1, 1, 0, 0, 0), (.iload 4, 2, 0, 0, 0), (.iconst 5, 1, 0, 0, 0), (.invokevirtual 50, 3, 2, 702, 3), (.if_icmp .le 7, 3, 55, 0, 0), (.iconst 1, 1, 0, 0, 0), (.goto 4, 3, 56, 0, 0)]
def b_X2_letBoard_55 : List wAn := [(.iconst 0, 1, 0, 0, 0)]
def b_X2_letBoard_56 : List wAn := [(.istore 6, 2, 0, 0, 0), (.aload_n 0, 1, 0, 0, 0), (.getfield 21, 3, 0, 2, 3), (.iload 4, 2, 0, 0, 0), (.iload 6, 2, 0, 0, 0), (.ifCond .eq 18, 3, 84, 0, 0), (.aload_n 1, 1, 0, 0, 0), (.iload 4, 2, 0, 0, 0), (.iload_n 2, 1, 0, 0, 0), (.iconst 1, 1, 0, 0, 0), (.iadd, 1, 0, 0, 0), (.invokevirtual 87, 3, 3, 702, 3), (.invokestatic 75, 3, 4, 1, 1), (.goto 6, 3, 87, 0, 0)]
def b_X2_letBoard_84 : List wAn := [(.sipush 1540, 3, 0, 0, 0)]
def b_X2_letBoard_87 : List wAn := [(.iastore, 1, 4, 0, 0), (.iload_n 2, 1, 0, 0, 0), (.aload_n 1, 1, 0, 0, 0), (.iload 4, 2, 0, 0, 0), (.iconst 4, 1, 0, 0, 0), (.invokevirtual 50, 3, 2, 702, 3), (.iadd, 1, 0, 0, 0), (.istore 7, 2, 0, 0, 0), (.iload 7, 2, 0, 0, 0), (.iload_n 3, 1, 0, 0, 0), (.if_icmp .gt 31, 3, 133, 0, 0), (.aload_n 0, 1, 0, 0, 0), (.aload_n 1, 1, 0, 0, 0), (.iload 4, 2, 0, 0, 0), (.iconst 1, 1, 0, 0, 0), (.invokevirtual 50, 3, 2, 702, 3), (.iload 7, 2, 0, 0, 0), (.aload_n 0, 1, 0, 0, 0), (.getfield 18, 3, 0, 2, 2), (.aload_n 1, 1, 0, 0, 0), (.iload 4, 2, 0, 0, 0), (.iconst 0, 1, 0, 0, 0), (.invokevirtual 50, 3, 2, 702, 3), (.iaload, 1, 3, 0, 0), (.iload 5, 2, 0, 0, 0), (.iadd, 1, 0, 0, 0), (.invokevirtual 90, 3, 5, 7, 4)]
def b_X2_letBoard_133 : List wAn := [(.aload_n 0, 1, 0, 0, 0), (.aload_n 0, 1, 0, 0, 0), (.getfield 30, 3, 0, 2, 6), (.aload_n 0, 1, 0, 0, 0), (.getfield 21, 3, 0, 2, 3), (.iload 4, 2, 0, 0, 0), (.iaload, 1, 4, 0, 0), (.invokestatic 79, 3, 6, 1, 2), (.putfield 30, 3, 0, 2, 6), (.iinc 4 1, 3, 0, 0, 0), (.goto (-144), 3, 10, 0, 0)]
def b_X2_letBoard_157 : List wAn := [(.return_, 1, 0, 0, 0)]
def q_X2_letBoard : List (Nat × List wAn) := [(0, b_X2_letBoard_0), (10, b_X2_letBoard_10), (55, b_X2_letBoard_55), (56, b_X2_letBoard_56), (84, b_X2_letBoard_84), (87, b_X2_letBoard_87), (133, b_X2_letBoard_133), (157, b_X2_letBoard_157)]
abbrev ck_X2_letBoard : List wAn → Nat → Bool := w_ckB o_X2_letBoard RX2 vwCl 8 cX2_letBoard ct_X2_letBoard
theorem cq_X2_letBoard : q_X2_letBoard.all (fun q => ck_X2_letBoard q.2 q.1) = true := by decide +kernel
def o_X2_expect : List Cond := [.fieldLink RX2 24 RX2 "comers" "[I", .fieldLink RX2 27 RX2 "comersFares" "[I"] ++ wsX20
theorem oi_X2_expect : ∀ w ∈ o_X2_expect, w ∈ wGT := wGT_of _ [61, 62, 64, 66, 68, 70, 72, 74, 76] (by decide +kernel) (by decide +kernel)
def ct_X2_expect : List (Instr × Nat) := []
abbrev rm_X2_expect : Room := { frames := 0, cells := 0, slots := 0, locals := 0 }
def b_X2_expect_0 : List wAn := [(.iload_n 2, 1, 0, 0, 0), (.bipush 100, 2, 0, 0, 0), (.irem, 1, 0, 0, 0), (.istore 4, 2, 0, 0, 0), (.iload 4, 2, 0, 0, 0), (.bipush 8, 2, 0, 0, 0), (.imul, 1, 0, 0, 0), (.iload_n 1, 1, 0, 0, 0), (.iadd, 1, 0, 0, 0), (.istore 5, 2, 0, 0, 0), (.aload_n 0, 1, 0, 0, 0), (.getfield 24, 3, 0, 2, 4), (.iload 4, 2, 0, 0, 0), (.iaload, 1, 5, 0, 0), (.iconst 1, 1, 0, 0, 0), (.iload_n 1, 1, 0, 0, 0), (.ishl, 1, 0, 0, 0), (.iand, 1, 0, 0, 0), (.ifCond .eq 14, 3, 40, 0, 0), (.iload_n 3, 1, 0, 0, 0), (.aload_n 0, 1, 0, 0, 0), (.getfield 27, 3, 0, 2, 5), (.iload 5, 2, 0, 0, 0), (.iaload, 1, 6, 0, 0), (.if_icmp .ge 24, 3, 61, 0, 0)]
def b_X2_expect_40 : List wAn := [(.aload_n 0, 1, 0, 0, 0), (.getfield 24, 3, 0, 2, 4), (.iload 4, 2, 0, 0, 0), (.dup2, 1, 0, 0, 0), (.iaload, 1, 5, 0, 0), (.iconst 1, 1, 0, 0, 0), (.iload_n 1, 1, 0, 0, 0), (.ishl, 1, 0, 0, 0), (.ior, 1, 0, 0, 0), (.iastore, 1, 5, 0, 0), (.aload_n 0, 1, 0, 0, 0), (.getfield 27, 3, 0, 2, 5), (.iload 5, 2, 0, 0, 0), (.iload_n 3, 1, 0, 0, 0), (.iastore, 1, 6, 0, 0)]
def b_X2_expect_61 : List wAn := [(.return_, 1, 0, 0, 0)]
def q_X2_expect : List (Nat × List wAn) := [(0, b_X2_expect_0), (40, b_X2_expect_40), (61, b_X2_expect_61)]
abbrev ck_X2_expect : List wAn → Nat → Bool := w_ckB o_X2_expect RX2 vwCl 6 cX2_expect ct_X2_expect
theorem cq_X2_expect : q_X2_expect.all (fun q => ck_X2_expect q.2 q.1) = true := by decide +kernel
def o_X2_orNever : List Cond := []
theorem oi_X2_orNever : ∀ w ∈ o_X2_orNever, w ∈ wGT := wGT_of _ [] (by decide +kernel) (by decide +kernel)
def ct_X2_orNever : List (Instr × Nat) := []
abbrev rm_X2_orNever : Room := { frames := 0, cells := 0, slots := 0, locals := 0 }
def b_X2_orNever_0 : List wAn := [(.iload_n 0, 1, 0, 0, 0), (.iconst (-1), 1, 0, 0, 0), (.if_icmp .ne 9, 3, 11, 0, 0), (.sipush 1540, 3, 0, 0, 0), (.goto 4, 3, 12, 0, 0)]
def b_X2_orNever_11 : List wAn := [(.iload_n 0, 1, 0, 0, 0)]
def b_X2_orNever_12 : List wAn := [(.ireturn, 1, 0, 0, 0)]
def q_X2_orNever : List (Nat × List wAn) := [(0, b_X2_orNever_0), (11, b_X2_orNever_11), (12, b_X2_orNever_12)]
abbrev ck_X2_orNever : List wAn → Nat → Bool := w_ckB o_X2_orNever RX2 vwCl 1 cX2_orNever ct_X2_orNever
theorem cq_X2_orNever : q_X2_orNever.all (fun q => ck_X2_orNever q.2 q.1) = true := by decide +kernel
def o_L_cell : List Cond := [.constant RL 7 (ii 15510031)]
theorem oi_L_cell : ∀ w ∈ o_L_cell, w ∈ wGT := wGT_of _ [129] (by decide +kernel) (by decide +kernel)
def ct_L_cell : List (Instr × Nat) := []
abbrev rm_L_cell : Room := { frames := 0, cells := 0, slots := 0, locals := 0 }
def b_L_cell_0 : List wAn := [(.iload_n 1, 1, 0, 0, 0), (.aload_n 0, 1, 0, 0, 0), (.arraylength, 1, 3, 1, 0), (.if_icmp .ge 9, 3, 12, 0, 0), (.aload_n 0, 1, 0, 0, 0), (.iload_n 1, 1, 0, 0, 0), (.iaload, 1, 3, 1, 0), (.goto 11, 3, 20, 0, 0)]
def b_L_cell_12 : List wAn := [(.ldc 7, 2, 15510031, 0, 0), (.iload_n 1, 1, 0, 0, 0), (.imul, 1, 0, 0, 0), (.sipush 16703, 3, 0, 0, 0), (.iadd, 1, 0, 0, 0)]
def b_L_cell_20 : List wAn := [(.ireturn, 1, 0, 0, 0)]
def q_L_cell : List (Nat × List wAn) := [(0, b_L_cell_0), (12, b_L_cell_12), (20, b_L_cell_20)]
abbrev ck_L_cell : List wAn → Nat → Bool := w_ckB o_L_cell RL vwCl 2 cL_cell ct_L_cell
theorem cq_L_cell : q_L_cell.all (fun q => ck_L_cell q.2 q.1) = true := by decide +kernel
def o_L_low : List Cond := [.constant RL 8 (ii 2147483647)]
theorem oi_L_low : ∀ w ∈ o_L_low, w ∈ wGT := wGT_of _ [133] (by decide +kernel) (by decide +kernel)
def ct_L_low : List (Instr × Nat) := []
abbrev rm_L_low : Room := { frames := 0, cells := 0, slots := 0, locals := 0 }
def b_L_low_0 : List wAn := [(.iload_n 0, 1, 0, 0, 0), (.ldc 8, 2, 2147483647, 0, 0), (.iand, 1, 0, 0, 0), (.iload_n 1, 1, 0, 0, 0), (.irem, 1, 0, 0, 0), (.ireturn, 1, 0, 0, 0)]
def q_L_low : List (Nat × List wAn) := [(0, b_L_low_0)]
abbrev ck_L_low : List wAn → Nat → Bool := w_ckB o_L_low RL vwCl 2 cL_low ct_L_low
theorem cq_L_low : q_L_low.all (fun q => ck_L_low q.2 q.1) = true := by decide +kernel
def o_L_tell : List Cond := [.methodLink RL 9 yX3_count, .instanceMethod yX3_count, .selects RX3 yX3_count yX3_count, .initialized RX3, .code yX3_count cX3_count 2 (some .int), .methodLink RL 15 yL_low, .static yL_low, .initialized RL, .code yL_low cL_low 2 (some .int), .methodLink RL 21 yX3_ferry, .instanceMethod yX3_ferry, .selects RX3 yX3_ferry yX3_ferry, .code yX3_ferry cX3_ferry 7 (some .int)]
theorem oi_L_tell : ∀ w ∈ o_L_tell, w ∈ wGT := wGT_of _ [137, 138, 139, 19, 140, 130, 131, 18, 132, 231, 232, 233, 234] (by decide +kernel) (by decide +kernel)
def ct_L_tell : List (Instr × Nat) := [(.invokevirtual 9, 2), (.invokestatic 15, 2), (.invokevirtual 21, 7)]
abbrev rm_L_tell : Room := { frames := 9, cells := 1, slots := 6, locals := 167 }
def b_L_tell_0 : List wAn := [(.aload_n 0, 1, 0, 0, 0), (.iconst 0, 1, 0, 0, 0), (.invokevirtual 9, 3, 0, 0, 2), (.istore_n 3, 1, 0, 0, 0), (.iload_n 3, 1, 0, 0, 0), (.bipush 14, 2, 0, 0, 0), (.if_icmp .ne 5, 3, 14, 0, 0), (.iconst 1, 1, 0, 0, 0), (.ireturn, 1, 0, 0, 0)]
def b_L_tell_14 : List wAn := [(.iload_n 1, 1, 0, 0, 0), (.bipush 6, 2, 0, 0, 0), (.invokestatic 15, 3, 1, 1, 2), (.istore 4, 2, 0, 0, 0), (.iload 4, 2, 0, 0, 0), (.iconst 1, 1, 0, 0, 0), (.iadd, 1, 0, 0, 0), (.iload_n 1, 1, 0, 0, 0), (.iconst 4, 1, 0, 0, 0), (.ishr, 1, 0, 0, 0), (.iconst 5, 1, 0, 0, 0), (.invokestatic 15, 3, 1, 1, 2), (.iadd, 1, 0, 0, 0), (.bipush 6, 2, 0, 0, 0), (.irem, 1, 0, 0, 0), (.istore 5, 2, 0, 0, 0), (.aload_n 0, 1, 0, 0, 0), (.iload 4, 2, 0, 0, 0), (.iload 5, 2, 0, 0, 0), (.iload_n 1, 1, 0, 0, 0), (.bipush 8, 2, 0, 0, 0), (.ishr, 1, 0, 0, 0), (.sipush 200, 3, 0, 0, 0), (.invokestatic 15, 3, 1, 1, 2), (.iconst 1, 1, 0, 0, 0), (.iload_n 2, 1, 0, 0, 0), (.sipush 199, 3, 0, 0, 0), (.invokestatic 15, 3, 1, 1, 2), (.iadd, 1, 0, 0, 0), (.iconst 1, 1, 0, 0, 0), (.iload_n 2, 1, 0, 0, 0), (.bipush 8, 2, 0, 0, 0), (.ishr, 1, 0, 0, 0), (.bipush 90, 2, 0, 0, 0), (.invokestatic 15, 3, 1, 1, 2), (.iadd, 1, 0, 0, 0), (.iload_n 2, 1, 0, 0, 0), (.bipush 15, 2, 0, 0, 0), (.ishr, 1, 0, 0, 0), (.bipush 60, 2, 0, 0, 0), (.invokestatic 15, 3, 1, 1, 2), (.invokevirtual 21, 3, 2, 0, 7), (.iload_n 3, 1, 0, 0, 0), (.if_icmp .ne 18, 3, 105, 0, 0), (.aload_n 0, 1, 0, 0, 0), (.iconst 0, 1, 0, 0, 0), (.invokevirtual 9, 3, 0, 0, 2), (.iload_n 3, 1, 0, 0, 0), (.iconst 1, 1, 0, 0, 0), (.iadd, 1, 0, 0, 0), (.if_icmp .ne 7, 3, 105, 0, 0), (.iconst 1, 1, 0, 0, 0), (.goto 4, 3, 106, 0, 0)]
def b_L_tell_105 : List wAn := [(.iconst 0, 1, 0, 0, 0)]
def b_L_tell_106 : List wAn := [(.ireturn, 1, 0, 0, 0)]
def q_L_tell : List (Nat × List wAn) := [(0, b_L_tell_0), (14, b_L_tell_14), (105, b_L_tell_105), (106, b_L_tell_106)]
abbrev ck_L_tell : List wAn → Nat → Bool := w_ckB o_L_tell RL vwCl 6 cL_tell ct_L_tell
theorem cq_L_tell : q_L_tell.all (fun q => ck_L_tell q.2 q.1) = true := by decide +kernel
def o_L_mayLeave : List Cond := [.methodLink RL 25 yX3_ferryOf, .instanceMethod yX3_ferryOf, .selects RX3 yX3_ferryOf yX3_ferryOf, .initialized RX3, .code yX3_ferryOf cX3_ferryOf 3 (some .int), .methodLink RL 28 yX3_setting, .instanceMethod yX3_setting, .selects RX3 yX3_setting yX3_setting, .code yX3_setting cX3_setting 2 (some .int)]
theorem oi_L_mayLeave : ∀ w ∈ o_L_mayLeave, w ∈ wGT := wGT_of _ [335, 336, 337, 19, 338, 343, 344, 345, 346] (by decide +kernel) (by decide +kernel)
def ct_L_mayLeave : List (Instr × Nat) := [(.invokevirtual 25, 3), (.invokevirtual 28, 2)]
abbrev rm_L_mayLeave : Room := { frames := 9, cells := 1, slots := 6, locals := 164 }
def b_L_mayLeave_0 : List wAn := [(.iload_n 2, 1, 0, 0, 0), (.aload_n 0, 1, 0, 0, 0), (.iload_n 1, 1, 0, 0, 0), (.iconst 2, 1, 0, 0, 0), (.invokevirtual 25, 3, 0, 0, 3), (.isub, 1, 0, 0, 0), (.istore_n 3, 1, 0, 0, 0), (.iload_n 2, 1, 0, 0, 0), (.aload_n 0, 1, 0, 0, 0), (.iconst 0, 1, 0, 0, 0), (.invokevirtual 28, 3, 1, 0, 2), (.iadd, 1, 0, 0, 0), (.sipush 720, 3, 0, 0, 0), (.irem, 1, 0, 0, 0), (.sipush 360, 3, 0, 0, 0), (.if_icmp .ge 7, 3, 30, 0, 0), (.iconst 1, 1, 0, 0, 0), (.goto 4, 3, 31, 0, 0)]
def b_L_mayLeave_30 : List wAn := [(.iconst 0, 1, 0, 0, 0)]
def b_L_mayLeave_31 : List wAn := [(.istore 4, 2, 0, 0, 0), (.aload_n 0, 1, 0, 0, 0), (.iload_n 1, 1, 0, 0, 0), (.bipush 6, 2, 0, 0, 0), (.invokevirtual 25, 3, 0, 0, 3), (.istore 5, 2, 0, 0, 0), (.iload_n 2, 1, 0, 0, 0), (.sipush 1439, 3, 0, 0, 0), (.if_icmp .gt 43, 3, 89, 0, 0), (.iload_n 3, 1, 0, 0, 0), (.ifCond .lt 39, 3, 89, 0, 0), (.iload_n 3, 1, 0, 0, 0), (.aload_n 0, 1, 0, 0, 0), (.iload_n 1, 1, 0, 0, 0), (.iconst 3, 1, 0, 0, 0), (.invokevirtual 25, 3, 0, 0, 3), (.irem, 1, 0, 0, 0), (.ifCond .ne 28, 3, 89, 0, 0), (.iload 5, 2, 0, 0, 0), (.ifCond .eq 19, 3, 85, 0, 0), (.iload 4, 2, 0, 0, 0), (.iload 5, 2, 0, 0, 0), (.iconst 1, 1, 0, 0, 0), (.if_icmp .ne 7, 3, 81, 0, 0), (.iconst 1, 1, 0, 0, 0), (.goto 4, 3, 82, 0, 0)]
def b_L_mayLeave_81 : List wAn := [(.iconst 0, 1, 0, 0, 0)]
def b_L_mayLeave_82 : List wAn := [(.if_icmp .ne 7, 3, 89, 0, 0)]
def b_L_mayLeave_85 : List wAn := [(.iconst 1, 1, 0, 0, 0), (.goto 4, 3, 90, 0, 0)]
def b_L_mayLeave_89 : List wAn := [(.iconst 0, 1, 0, 0, 0)]
def b_L_mayLeave_90 : List wAn := [(.ireturn, 1, 0, 0, 0)]
def q_L_mayLeave : List (Nat × List wAn) := [(0, b_L_mayLeave_0), (30, b_L_mayLeave_30), (31, b_L_mayLeave_31), (81, b_L_mayLeave_81), (82, b_L_mayLeave_82), (85, b_L_mayLeave_85), (89, b_L_mayLeave_89), (90, b_L_mayLeave_90)]
abbrev ck_L_mayLeave : List wAn → Nat → Bool := w_ckB o_L_mayLeave RL vwCl 6 cL_mayLeave ct_L_mayLeave
theorem cq_L_mayLeave : q_L_mayLeave.all (fun q => ck_L_mayLeave q.2 q.1) = true := by decide +kernel
def o_L_first : List Cond := [.methodLink RL 31 yL_mayLeave, .static yL_mayLeave, .initialized RL, .code yL_mayLeave cL_mayLeave 6 (some .boolean)]
theorem oi_L_first : ∀ w ∈ o_L_first, w ∈ wGT := wGT_of _ [332, 333, 18, 334] (by decide +kernel) (by decide +kernel)
def ct_L_first : List (Instr × Nat) := [(.invokestatic 31, 3)]
abbrev rm_L_first : Room := { frames := 10, cells := 1, slots := 6, locals := 189 }
def b_L_first_0 : List wAn := [(.iload_n 2, 1, 0, 0, 0), (.istore_n 3, 1, 0, 0, 0)]
def b_L_first_2 : List wAn := [(.iload_n 3, 1, 0, 0, 0), (.sipush 1439, 3, 0, 0, 0), (.if_icmp .gt 20, 3, 26, 0, 0), (.aload_n 0, 1, 0, 0, 0), (.iload_n 1, 1, 0, 0, 0), (.iload_n 3, 1, 0, 0, 0), (.invokestatic 31, 3, 0, 0, 3), (.ifCond .eq 5, 3, 20, 0, 0), (.iload_n 3, 1, 0, 0, 0), (.ireturn, 1, 0, 0, 0)]
def b_L_first_20 : List wAn := [(.iinc 3 1, 3, 0, 0, 0), (.goto (-21), 3, 2, 0, 0)]
def b_L_first_26 : List wAn := [(.iconst (-1), 1, 0, 0, 0), (.ireturn, 1, 0, 0, 0)]
def q_L_first : List (Nat × List wAn) := [(0, b_L_first_0), (2, b_L_first_2), (20, b_L_first_20), (26, b_L_first_26)]
abbrev ck_L_first : List wAn → Nat → Bool := w_ckB o_L_first RL vwCl 4 cL_first ct_L_first
theorem cq_L_first : q_L_first.all (fun q => ck_L_first q.2 q.1) = true := by decide +kernel
def o_L_ferries : List Cond := [.methodLink RL 9 yX3_count, .instanceMethod yX3_count, .selects RX3 yX3_count yX3_count, .initialized RX3, .code yX3_count cX3_count 2 (some .int), .methodLink RL 15 yL_low, .static yL_low, .initialized RL, .code yL_low cL_low 2 (some .int), .methodLink RL 35 yX3_leaves, .instanceMethod yX3_leaves, .selects RX3 yX3_leaves yX3_leaves, .code yX3_leaves cX3_leaves 3 (some .int), .methodLink RL 38 yL_first, .static yL_first, .code yL_first cL_first 4 (some .int), .methodLink RL 25 yX3_ferryOf, .instanceMethod yX3_ferryOf, .selects RX3 yX3_ferryOf yX3_ferryOf, .code yX3_ferryOf cX3_ferryOf 3 (some .int), .methodLink RL 42 yX3_costs, .instanceMethod yX3_costs, .selects RX3 yX3_costs yX3_costs, .code yX3_costs cX3_costs 3 (some .int), .methodLink RL 28 yX3_setting, .instanceMethod yX3_setting, .selects RX3 yX3_setting yX3_setting, .code yX3_setting cX3_setting 2 (some .int)]
theorem oi_L_ferries : ∀ w ∈ o_L_ferries, w ∈ wGT := wGT_of _ [137, 138, 139, 19, 140, 130, 131, 18, 132, 305, 306, 307, 308, 329, 330, 331, 335, 336, 337, 338, 351, 352, 353, 354, 343, 344, 345, 346] (by decide +kernel) (by decide +kernel)
def ct_L_ferries : List (Instr × Nat) := [(.invokevirtual 9, 2), (.invokestatic 15, 2), (.invokevirtual 35, 3), (.invokestatic 38, 3), (.invokevirtual 25, 3), (.invokevirtual 42, 3), (.invokevirtual 28, 2)]
abbrev rm_L_ferries : Room := { frames := 11, cells := 1, slots := 6, locals := 212 }
def b_L_ferries_0 : List wAn := [(.iconst 0, 1, 0, 0, 0), (.istore_n 2, 1, 0, 0, 0)]
def b_L_ferries_2 : List wAn := [(.iload_n 2, 1, 0, 0, 0), (.aload_n 0, 1, 0, 0, 0), (.iconst 0, 1, 0, 0, 0), (.invokevirtual 9, 3, 0, 0, 2), (.if_icmp .ge 100, 3, 108, 0, 0), (.iload_n 1, 1, 0, 0, 0), (.iload_n 2, 1, 0, 0, 0), (.bipush 7, 2, 0, 0, 0), (.irem, 1, 0, 0, 0), (.ishr, 1, 0, 0, 0), (.sipush 1540, 3, 0, 0, 0), (.invokestatic 15, 3, 1, 1, 2), (.istore_n 3, 1, 0, 0, 0), (.aload_n 0, 1, 0, 0, 0), (.iload_n 2, 1, 0, 0, 0), (.iload_n 3, 1, 0, 0, 0), (.invokevirtual 35, 3, 2, 0, 3), (.aload_n 0, 1, 0, 0, 0), (.iload_n 2, 1, 0, 0, 0), (.iload_n 3, 1, 0, 0, 0), (.invokestatic 38, 3, 3, 0, 3), (.if_icmp .eq 5, 3, 41, 0, 0), (.iconst 0, 1, 0, 0, 0), (.ireturn, 1, 0, 0, 0)]
def b_L_ferries_41 : List wAn := [(.iload_n 1, 1, 0, 0, 0), (.iconst 3, 1, 0, 0, 0), (.ishr, 1, 0, 0, 0), (.sipush 1440, 3, 0, 0, 0), (.invokestatic 15, 3, 1, 1, 2), (.istore 4, 2, 0, 0, 0), (.aload_n 0, 1, 0, 0, 0), (.iload_n 2, 1, 0, 0, 0), (.iconst 5, 1, 0, 0, 0), (.invokevirtual 25, 3, 4, 0, 3), (.istore 5, 2, 0, 0, 0), (.aload_n 0, 1, 0, 0, 0), (.iload_n 2, 1, 0, 0, 0), (.iload 4, 2, 0, 0, 0), (.invokevirtual 42, 3, 5, 0, 3), (.iload 4, 2, 0, 0, 0), (.aload_n 0, 1, 0, 0, 0), (.iload_n 2, 1, 0, 0, 0), (.bipush 7, 2, 0, 0, 0), (.invokevirtual 25, 3, 4, 0, 3), (.iadd, 1, 0, 0, 0), (.bipush 60, 2, 0, 0, 0), (.irem, 1, 0, 0, 0), (.aload_n 0, 1, 0, 0, 0), (.iconst 1, 1, 0, 0, 0), (.invokevirtual 28, 3, 6, 0, 2), (.if_icmp .ge 10, 3, 95, 0, 0), (.iconst 2, 1, 0, 0, 0), (.iload 5, 2, 0, 0, 0), (.imul, 1, 0, 0, 0), (.goto 5, 3, 97, 0, 0)]
def b_L_ferries_95 : List wAn := [(.iload 5, 2, 0, 0, 0)]
def b_L_ferries_97 : List wAn := [(.if_icmp .eq 5, 3, 102, 0, 0), (.iconst 0, 1, 0, 0, 0), (.ireturn, 1, 0, 0, 0)]
def b_L_ferries_102 : List wAn := [(.iinc 2 1, 3, 0, 0, 0), (.goto (-103), 3, 2, 0, 0)]
def b_L_ferries_108 : List wAn := [(.iconst 1, 1, 0, 0, 0), (.ireturn, 1, 0, 0, 0)]
def q_L_ferries : List (Nat × List wAn) := [(0, b_L_ferries_0), (2, b_L_ferries_2), (41, b_L_ferries_41), (95, b_L_ferries_95), (97, b_L_ferries_97), (102, b_L_ferries_102), (108, b_L_ferries_108)]
abbrev ck_L_ferries : List wAn → Nat → Bool := w_ckB o_L_ferries RL vwCl 6 cL_ferries ct_L_ferries
theorem cq_L_ferries : q_L_ferries.all (fun q => ck_L_ferries q.2 q.1) = true := by decide +kernel
def o_L_byFerries : List Cond := [.methodLink RL 9 yX3_count, .instanceMethod yX3_count, .selects RX3 yX3_count yX3_count, .initialized RX3, .code yX3_count cX3_count 2 (some .int), .methodLink RL 25 yX3_ferryOf, .instanceMethod yX3_ferryOf, .selects RX3 yX3_ferryOf yX3_ferryOf, .code yX3_ferryOf cX3_ferryOf 3 (some .int), .methodLink RL 35 yX3_leaves, .instanceMethod yX3_leaves, .selects RX3 yX3_leaves yX3_leaves, .code yX3_leaves cX3_leaves 3 (some .int)]
theorem oi_L_byFerries : ∀ w ∈ o_L_byFerries, w ∈ wGT := wGT_of _ [137, 138, 139, 19, 140, 335, 336, 337, 338, 305, 306, 307, 308] (by decide +kernel) (by decide +kernel)
def ct_L_byFerries : List (Instr × Nat) := [(.invokevirtual 9, 2), (.invokevirtual 25, 3), (.invokevirtual 35, 3)]
abbrev rm_L_byFerries : Room := { frames := 9, cells := 1, slots := 6, locals := 164 }
def b_L_byFerries_0 : List wAn := [(.iconst (-1), 1, 0, 0, 0), (.istore_n 3, 1, 0, 0, 0), (.iconst 0, 1, 0, 0, 0), (.istore 4, 2, 0, 0, 0)]
def b_L_byFerries_5 : List wAn := [(.iload 4, 2, 0, 0, 0), (.aload_n 0, 1, 0, 0, 0), (.iconst 0, 1, 0, 0, 0), (.invokevirtual 9, 3, 0, 14, 2), (.if_icmp .ge 92, 3, 104, 0, 0), (.aload_n 1, 1, 0, 0, 0), (.aload_n 0, 1, 0, 0, 0), (.iload 4, 2, 0, 0, 0), (.iconst 0, 1, 0, 0, 0), (.invokevirtual 25, 3, 1, 14, 3), (.iaload, 1, 14, 0, 0), (.istore 5, 2, 0, 0, 0), (.aload_n 0, 1, 0, 0, 0), (.iload 4, 2, 0, 0, 0), (.iconst 1, 1, 0, 0, 0), (.invokevirtual 25, 3, 1, 14, 3), (.iload_n 2, 1, 0, 0, 0), (.if_icmp .ne 16, 3, 50, 0, 0), (.iload 5, 2, 0, 0, 0), (.ifCond .lt 11, 3, 50, 0, 0), (.iload 5, 2, 0, 0, 0), (.sipush 1439, 3, 0, 0, 0), (.if_icmp .le 7, 3, 54, 0, 0)]
def b_L_byFerries_50 : List wAn := [(.iconst (-1), 1, 0, 0, 0), (.goto 11, 3, 62, 0, 0)]
def b_L_byFerries_54 : List wAn := [(.aload_n 0, 1, 0, 0, 0), (.iload 4, 2, 0, 0, 0), (.iload 5, 2, 0, 0, 0), (.invokevirtual 35, 3, 2, 14, 3)]
def b_L_byFerries_62 : List wAn := [(.istore 6, 2, 0, 0, 0), (.iload 6, 2, 0, 0, 0), (.aload_n 0, 1, 0, 0, 0), (.iload 4, 2, 0, 0, 0), (.iconst 4, 1, 0, 0, 0), (.invokevirtual 25, 3, 1, 14, 3), (.iadd, 1, 0, 0, 0), (.istore 7, 2, 0, 0, 0), (.iload 6, 2, 0, 0, 0), (.ifCond .lt 18, 3, 96, 0, 0), (.iload_n 3, 1, 0, 0, 0), (.ifCond .lt 9, 3, 91, 0, 0), (.iload 7, 2, 0, 0, 0), (.iload_n 3, 1, 0, 0, 0), (.if_icmp .ge 8, 3, 96, 0, 0)]
def b_L_byFerries_91 : List wAn := [(.iload 7, 2, 0, 0, 0), (.goto 4, 3, 97, 0, 0)]
def b_L_byFerries_96 : List wAn := [(.iload_n 3, 1, 0, 0, 0)]
def b_L_byFerries_97 : List wAn := [(.istore_n 3, 1, 0, 0, 0), (.iinc 4 1, 3, 0, 0, 0), (.goto (-96), 3, 5, 0, 0)]
def b_L_byFerries_104 : List wAn := [(.iload_n 3, 1, 0, 0, 0), (.ireturn, 1, 0, 0, 0)]
def q_L_byFerries : List (Nat × List wAn) := [(0, b_L_byFerries_0), (5, b_L_byFerries_5), (50, b_L_byFerries_50), (54, b_L_byFerries_54), (62, b_L_byFerries_62), (91, b_L_byFerries_91), (96, b_L_byFerries_96), (97, b_L_byFerries_97), (104, b_L_byFerries_104)]
abbrev ck_L_byFerries : List wAn → Nat → Bool := w_ckB o_L_byFerries RL vwCl 8 cL_byFerries ct_L_byFerries
theorem cq_L_byFerries : q_L_byFerries.all (fun q => ck_L_byFerries q.2 q.1) = true := by decide +kernel
def o_L_soonest : List Cond := [.methodLink RL 45 yX3_soonest, .instanceMethod yX3_soonest, .selects RX3 yX3_soonest yX3_soonest, .initialized RX3, .code yX3_soonest cX3_soonest 4 (some .int), .methodLink RL 49 yL_byFerries, .static yL_byFerries, .initialized RL, .code yL_byFerries cL_byFerries 8 (some .int)]
theorem oi_L_soonest : ∀ w ∈ o_L_soonest, w ∈ wGT := wGT_of _ [366, 367, 368, 19, 369, 388, 389, 18, 390] (by decide +kernel) (by decide +kernel)
def ct_L_soonest : List (Instr × Nat) := [(.invokevirtual 45, 4), (.invokestatic 49, 3)]
abbrev rm_L_soonest : Room := { frames := 10, cells := 0, slots := 0, locals := 191 }
def b_L_soonest_0 : List wAn := [(.bipush 8, 2, 0, 0, 0)]
def b_L_soonest_4 : List wAn := [(.astore_n 3, 1, 0, 0, 0), (.iconst 0, 1, 0, 0, 0), (.istore 4, 2, 0, 0, 0)]
def b_L_soonest_8 : List wAn := [(.iload 4, 2, 0, 0, 0), (.bipush 8, 2, 0, 0, 0), (.if_icmp .ge 21, 3, 33, 0, 0), (.aload_n 3, 1, 0, 0, 0), (.iload 4, 2, 0, 0, 0), (.aload_n 0, 1, 0, 0, 0), (.iload_n 1, 1, 0, 0, 0), (.iload 4, 2, 0, 0, 0), (.iload_n 2, 1, 0, 0, 0), (.invokevirtual 45, 3, 0, 14, 4), (.iastore, 1, 14, 0, 0), (.iinc 4 1, 3, 0, 0, 0), (.goto (-22), 3, 8, 0, 0)]
def b_L_soonest_33 : List wAn := [(.iconst 0, 1, 0, 0, 0), (.istore 4, 2, 0, 0, 0)]
def b_L_soonest_36 : List wAn := [(.iload 4, 2, 0, 0, 0), (.bipush 8, 2, 0, 0, 0), (.if_icmp .ge 35, 3, 75, 0, 0), (.aload_n 3, 1, 0, 0, 0), (.iload 4, 2, 0, 0, 0), (.iaload, 1, 14, 0, 0), (.iload 4, 2, 0, 0, 0), (.iload_n 1, 1, 0, 0, 0), (.if_icmp .ne 7, 3, 57, 0, 0), (.iload_n 2, 1, 0, 0, 0), (.goto 10, 3, 64, 0, 0)]
def b_L_soonest_57 : List wAn := [(.aload_n 0, 1, 0, 0, 0), (.aload_n 3, 1, 0, 0, 0), (.iload 4, 2, 0, 0, 0), (.invokestatic 49, 3, 1, 0, 3)]
def b_L_soonest_64 : List wAn := [(.if_icmp .eq 5, 3, 69, 0, 0), (.iconst 0, 1, 0, 0, 0), (.ireturn, 1, 0, 0, 0)]
def b_L_soonest_69 : List wAn := [(.iinc 4 1, 3, 0, 0, 0), (.goto (-36), 3, 36, 0, 0)]
def b_L_soonest_75 : List wAn := [(.iconst 1, 1, 0, 0, 0), (.ireturn, 1, 0, 0, 0)]
def q_L_soonest : List (Nat × List wAn) := [(0, b_L_soonest_0), (4, b_L_soonest_4), (8, b_L_soonest_8), (33, b_L_soonest_33), (36, b_L_soonest_36), (57, b_L_soonest_57), (64, b_L_soonest_64), (69, b_L_soonest_69), (75, b_L_soonest_75)]
abbrev ck_L_soonest : List wAn → Nat → Bool := w_ckB o_L_soonest RL vwCl 5 cL_soonest ct_L_soonest
theorem cq_L_soonest : q_L_soonest.all (fun q => ck_L_soonest q.2 q.1) = true := by decide +kernel
def o_L_cheapest : List Cond := [.methodLink RL 53 yX3_cheapest, .instanceMethod yX3_cheapest, .selects RX3 yX3_cheapest yX3_cheapest, .initialized RX3, .code yX3_cheapest cX3_cheapest 5 (some .int), .methodLink RL 45 yX3_soonest, .instanceMethod yX3_soonest, .selects RX3 yX3_soonest yX3_soonest, .code yX3_soonest cX3_soonest 4 (some .int), .methodLink RL 9 yX3_count, .instanceMethod yX3_count, .selects RX3 yX3_count yX3_count, .code yX3_count cX3_count 2 (some .int), .methodLink RL 25 yX3_ferryOf, .instanceMethod yX3_ferryOf, .selects RX3 yX3_ferryOf yX3_ferryOf, .code yX3_ferryOf cX3_ferryOf 3 (some .int), .methodLink RL 35 yX3_leaves, .instanceMethod yX3_leaves, .selects RX3 yX3_leaves yX3_leaves, .code yX3_leaves cX3_leaves 3 (some .int), .methodLink RL 42 yX3_costs, .instanceMethod yX3_costs, .selects RX3 yX3_costs yX3_costs, .code yX3_costs cX3_costs 3 (some .int)]
theorem oi_L_cheapest : ∀ w ∈ o_L_cheapest, w ∈ wGT := wGT_of _ [394, 395, 396, 19, 397, 366, 367, 368, 369, 137, 138, 139, 140, 335, 336, 337, 338, 305, 306, 307, 308, 351, 352, 353, 354] (by decide +kernel) (by decide +kernel)
def ct_L_cheapest : List (Instr × Nat) := [(.invokevirtual 53, 5), (.invokevirtual 45, 4), (.invokevirtual 9, 2), (.invokevirtual 25, 3), (.invokevirtual 35, 3), (.invokevirtual 42, 3)]
abbrev rm_L_cheapest : Room := { frames := 9, cells := 1, slots := 6, locals := 165 }
def b_L_cheapest_0 : List wAn := [(.aload_n 0, 1, 0, 0, 0), (.iload_n 1, 1, 0, 0, 0), (.iload_n 2, 1, 0, 0, 0), (.iload_n 3, 1, 0, 0, 0), (.iload 4, 2, 0, 0, 0), (.invokevirtual 53, 3, 0, 0, 5), (.istore 5, 2, 0, 0, 0), (.aload_n 0, 1, 0, 0, 0), (.iload_n 1, 1, 0, 0, 0), (.iload_n 2, 1, 0, 0, 0), (.iload_n 3, 1, 0, 0, 0), (.invokevirtual 45, 3, 1, 0, 4), (.istore 6, 2, 0, 0, 0), (.iload 5, 2, 0, 0, 0), (.ifCond .lt 7, 3, 29, 0, 0), (.iconst 1, 1, 0, 0, 0), (.goto 4, 3, 30, 0, 0)]
def b_L_cheapest_29 : List wAn := [(.iconst 0, 1, 0, 0, 0)]
def b_L_cheapest_30 : List wAn := [(.iload 6, 2, 0, 0, 0), (.ifCond .lt 14, 3, 46, 0, 0), (.iload 6, 2, 0, 0, 0), (.iload 4, 2, 0, 0, 0), (.if_icmp .gt 7, 3, 46, 0, 0), (.iconst 1, 1, 0, 0, 0), (.goto 4, 3, 47, 0, 0)]
def b_L_cheapest_46 : List wAn := [(.iconst 0, 1, 0, 0, 0)]
def b_L_cheapest_47 : List wAn := [(.if_icmp .ne 13, 3, 60, 0, 0), (.iload_n 1, 1, 0, 0, 0), (.iload_n 2, 1, 0, 0, 0), (.if_icmp .ne 10, 3, 62, 0, 0), (.iload 5, 2, 0, 0, 0), (.ifCond .eq 5, 3, 62, 0, 0)]
def b_L_cheapest_60 : List wAn := [(.iconst 0, 1, 0, 0, 0), (.ireturn, 1, 0, 0, 0)]
def b_L_cheapest_62 : List wAn := [(.aload_n 0, 1, 0, 0, 0), (.iload_n 1, 1, 0, 0, 0), (.iload_n 2, 1, 0, 0, 0), (.iload_n 3, 1, 0, 0, 0), (.sipush 1539, 3, 0, 0, 0), (.invokevirtual 53, 3, 0, 0, 5), (.istore 7, 2, 0, 0, 0), (.iload 5, 2, 0, 0, 0), (.ifCond .lt 17, 3, 93, 0, 0), (.iload 7, 2, 0, 0, 0), (.ifCond .lt 10, 3, 91, 0, 0), (.iload 7, 2, 0, 0, 0), (.iload 5, 2, 0, 0, 0), (.if_icmp .le 5, 3, 93, 0, 0)]
def b_L_cheapest_91 : List wAn := [(.iconst 0, 1, 0, 0, 0), (.ireturn, 1, 0, 0, 0)]
def b_L_cheapest_93 : List wAn := [(.iconst 0, 1, 0, 0, 0), (.istore 8, 2, 0, 0, 0)]
def b_L_cheapest_96 : List wAn := [(.iload 8, 2, 0, 0, 0), (.aload_n 0, 1, 0, 0, 0), (.iconst 0, 1, 0, 0, 0), (.invokevirtual 9, 3, 2, 0, 2), (.if_icmp .ge 84, 3, 187, 0, 0), (.aload_n 0, 1, 0, 0, 0), (.iload 8, 2, 0, 0, 0), (.iconst 0, 1, 0, 0, 0), (.invokevirtual 25, 3, 3, 0, 3), (.iload_n 1, 1, 0, 0, 0), (.if_icmp .ne 24, 3, 138, 0, 0), (.aload_n 0, 1, 0, 0, 0), (.iload 8, 2, 0, 0, 0), (.iconst 1, 1, 0, 0, 0), (.invokevirtual 25, 3, 3, 0, 3), (.iload_n 2, 1, 0, 0, 0), (.if_icmp .ne 13, 3, 138, 0, 0), (.aload_n 0, 1, 0, 0, 0), (.iload 8, 2, 0, 0, 0), (.iload_n 3, 1, 0, 0, 0), (.invokevirtual 35, 3, 4, 0, 3), (.goto 4, 3, 139, 0, 0)]
def b_L_cheapest_138 : List wAn := [(.iconst (-1), 1, 0, 0, 0)]
def b_L_cheapest_139 : List wAn := [(.istore 9, 2, 0, 0, 0), (.iload 9, 2, 0, 0, 0), (.ifCond .lt 38, 3, 181, 0, 0), (.iload 9, 2, 0, 0, 0), (.aload_n 0, 1, 0, 0, 0), (.iload 8, 2, 0, 0, 0), (.iconst 4, 1, 0, 0, 0), (.invokevirtual 25, 3, 3, 0, 3), (.iadd, 1, 0, 0, 0), (.iload 4, 2, 0, 0, 0), (.if_icmp .gt 23, 3, 181, 0, 0), (.iload 5, 2, 0, 0, 0), (.ifCond .lt 16, 3, 179, 0, 0), (.iload 5, 2, 0, 0, 0), (.aload_n 0, 1, 0, 0, 0), (.iload 8, 2, 0, 0, 0), (.iload 9, 2, 0, 0, 0), (.invokevirtual 42, 3, 5, 0, 3), (.if_icmp .le 5, 3, 181, 0, 0)]
def b_L_cheapest_179 : List wAn := [(.iconst 0, 1, 0, 0, 0), (.ireturn, 1, 0, 0, 0)]
def b_L_cheapest_181 : List wAn := [(.iinc 8 1, 3, 0, 0, 0), (.goto (-88), 3, 96, 0, 0)]
def b_L_cheapest_187 : List wAn := [(.iconst 1, 1, 0, 0, 0), (.ireturn, 1, 0, 0, 0)]
def q_L_cheapest : List (Nat × List wAn) := [(0, b_L_cheapest_0), (29, b_L_cheapest_29), (30, b_L_cheapest_30), (46, b_L_cheapest_46), (47, b_L_cheapest_47), (60, b_L_cheapest_60), (62, b_L_cheapest_62), (91, b_L_cheapest_91), (93, b_L_cheapest_93), (96, b_L_cheapest_96), (138, b_L_cheapest_138), (139, b_L_cheapest_139), (179, b_L_cheapest_179), (181, b_L_cheapest_181), (187, b_L_cheapest_187)]
abbrev ck_L_cheapest : List wAn → Nat → Bool := w_ckB o_L_cheapest RL vwCl 10 cL_cheapest ct_L_cheapest
theorem cq_L_cheapest : q_L_cheapest.all (fun q => ck_L_cheapest q.2 q.1) = true := by decide +kernel
def o_L_lastStart : List Cond := [.methodLink RL 57 yX3_lastStart, .instanceMethod yX3_lastStart, .selects RX3 yX3_lastStart yX3_lastStart, .initialized RX3, .code yX3_lastStart cX3_lastStart 4 (some .int), .methodLink RL 45 yX3_soonest, .instanceMethod yX3_soonest, .selects RX3 yX3_soonest yX3_soonest, .code yX3_soonest cX3_soonest 4 (some .int)]
theorem oi_L_lastStart : ∀ w ∈ o_L_lastStart, w ∈ wGT := wGT_of _ [437, 438, 439, 19, 440, 366, 367, 368, 369] (by decide +kernel) (by decide +kernel)
def ct_L_lastStart : List (Instr × Nat) := [(.invokevirtual 57, 4), (.invokevirtual 45, 4)]
abbrev rm_L_lastStart : Room := { frames := 9, cells := 1, slots := 6, locals := 164 }
def b_L_lastStart_0 : List wAn := [(.iload_n 1, 1, 0, 0, 0), (.iload_n 2, 1, 0, 0, 0), (.if_icmp .ne 5, 3, 7, 0, 0), (.iconst 1, 1, 0, 0, 0), (.ireturn, 1, 0, 0, 0)]
def b_L_lastStart_7 : List wAn := [(.aload_n 0, 1, 0, 0, 0), (.iload_n 1, 1, 0, 0, 0), (.iload_n 2, 1, 0, 0, 0), (.iload_n 3, 1, 0, 0, 0), (.invokevirtual 57, 3, 0, 0, 4), (.istore 4, 2, 0, 0, 0), (.aload_n 0, 1, 0, 0, 0), (.iload_n 1, 1, 0, 0, 0), (.iload_n 2, 1, 0, 0, 0), (.iload 4, 2, 0, 0, 0), (.ifCond .ge 7, 3, 28, 0, 0), (.iconst 0, 1, 0, 0, 0), (.goto 5, 3, 30, 0, 0)]
def b_L_lastStart_28 : List wAn := [(.iload 4, 2, 0, 0, 0)]
def b_L_lastStart_30 : List wAn := [(.invokevirtual 45, 3, 1, 0, 4), (.istore 5, 2, 0, 0, 0), (.iload 4, 2, 0, 0, 0), (.ifCond .ge 20, 3, 57, 0, 0), (.iload 5, 2, 0, 0, 0), (.ifCond .lt 9, 3, 51, 0, 0), (.iload 5, 2, 0, 0, 0), (.iload_n 3, 1, 0, 0, 0), (.if_icmp .le 7, 3, 55, 0, 0)]
def b_L_lastStart_51 : List wAn := [(.iconst 1, 1, 0, 0, 0), (.goto 4, 3, 56, 0, 0)]
def b_L_lastStart_55 : List wAn := [(.iconst 0, 1, 0, 0, 0)]
def b_L_lastStart_56 : List wAn := [(.ireturn, 1, 0, 0, 0)]
def b_L_lastStart_57 : List wAn := [(.iload 4, 2, 0, 0, 0), (.sipush 1439, 3, 0, 0, 0), (.if_icmp .ne 7, 3, 69, 0, 0), (.iconst (-1), 1, 0, 0, 0), (.goto 13, 3, 79, 0, 0)]
def b_L_lastStart_69 : List wAn := [(.aload_n 0, 1, 0, 0, 0), (.iload_n 1, 1, 0, 0, 0), (.iload_n 2, 1, 0, 0, 0), (.iload 4, 2, 0, 0, 0), (.iconst 1, 1, 0, 0, 0), (.iadd, 1, 0, 0, 0), (.invokevirtual 45, 3, 1, 0, 4)]
def b_L_lastStart_79 : List wAn := [(.istore 6, 2, 0, 0, 0), (.iload 5, 2, 0, 0, 0), (.ifCond .lt 24, 3, 107, 0, 0), (.iload 5, 2, 0, 0, 0), (.iload_n 3, 1, 0, 0, 0), (.if_icmp .gt 18, 3, 107, 0, 0), (.iload 6, 2, 0, 0, 0), (.ifCond .lt 9, 3, 103, 0, 0), (.iload 6, 2, 0, 0, 0), (.iload_n 3, 1, 0, 0, 0), (.if_icmp .le 7, 3, 107, 0, 0)]
def b_L_lastStart_103 : List wAn := [(.iconst 1, 1, 0, 0, 0), (.goto 4, 3, 108, 0, 0)]
def b_L_lastStart_107 : List wAn := [(.iconst 0, 1, 0, 0, 0)]
def b_L_lastStart_108 : List wAn := [(.ireturn, 1, 0, 0, 0)]
def q_L_lastStart : List (Nat × List wAn) := [(0, b_L_lastStart_0), (7, b_L_lastStart_7), (28, b_L_lastStart_28), (30, b_L_lastStart_30), (51, b_L_lastStart_51), (55, b_L_lastStart_55), (56, b_L_lastStart_56), (57, b_L_lastStart_57), (69, b_L_lastStart_69), (79, b_L_lastStart_79), (103, b_L_lastStart_103), (107, b_L_lastStart_107), (108, b_L_lastStart_108)]
abbrev ck_L_lastStart : List wAn → Nat → Bool := w_ckB o_L_lastStart RL vwCl 7 cL_lastStart ct_L_lastStart
theorem cq_L_lastStart : q_L_lastStart.all (fun q => ck_L_lastStart q.2 q.1) = true := by decide +kernel
def o_L_reach : List Cond := [.methodLink RL 60 yX3_traveller, .instanceMethod yX3_traveller, .selects RX3 yX3_traveller yX3_traveller, .initialized RX3, .code yX3_traveller cX3_traveller 3 (some .int), .methodLink RL 53 yX3_cheapest, .instanceMethod yX3_cheapest, .selects RX3 yX3_cheapest yX3_cheapest, .code yX3_cheapest cX3_cheapest 5 (some .int), .methodLink RL 63 yX3_reach, .instanceMethod yX3_reach, .selects RX3 yX3_reach yX3_reach, .code yX3_reach cX3_reach 2 (some .int)]
theorem oi_L_reach : ∀ w ∈ o_L_reach, w ∈ wGT := wGT_of _ [465, 466, 467, 19, 468, 394, 395, 396, 397, 473, 474, 475, 476] (by decide +kernel) (by decide +kernel)
def ct_L_reach : List (Instr × Nat) := [(.invokevirtual 60, 3), (.invokevirtual 53, 5), (.invokevirtual 63, 2)]
abbrev rm_L_reach : Room := { frames := 9, cells := 1, slots := 6, locals := 168 }
def b_L_reach_0 : List wAn := [(.aload_n 0, 1, 0, 0, 0), (.iload_n 1, 1, 0, 0, 0), (.iconst 0, 1, 0, 0, 0), (.invokevirtual 60, 3, 0, 0, 3), (.istore_n 2, 1, 0, 0, 0), (.aload_n 0, 1, 0, 0, 0), (.iload_n 1, 1, 0, 0, 0), (.iconst 1, 1, 0, 0, 0), (.invokevirtual 60, 3, 0, 0, 3), (.istore_n 3, 1, 0, 0, 0), (.iconst 1, 1, 0, 0, 0), (.iload_n 2, 1, 0, 0, 0), (.ishl, 1, 0, 0, 0), (.istore 4, 2, 0, 0, 0), (.iconst 0, 1, 0, 0, 0), (.istore 5, 2, 0, 0, 0)]
def b_L_reach_22 : List wAn := [(.iload 5, 2, 0, 0, 0), (.bipush 8, 2, 0, 0, 0), (.if_icmp .ge 58, 3, 84, 0, 0), (.iload_n 3, 1, 0, 0, 0), (.sipush 1439, 3, 0, 0, 0), (.if_icmp .gt 51, 3, 84, 0, 0), (.aload_n 0, 1, 0, 0, 0), (.iload_n 2, 1, 0, 0, 0), (.iload 5, 2, 0, 0, 0), (.iload_n 3, 1, 0, 0, 0), (.sipush 1539, 3, 0, 0, 0), (.invokevirtual 53, 3, 1, 0, 5), (.istore 6, 2, 0, 0, 0), (.iload 4, 2, 0, 0, 0), (.iload 6, 2, 0, 0, 0), (.ifCond .lt 21, 3, 74, 0, 0), (.iload 6, 2, 0, 0, 0), (.aload_n 0, 1, 0, 0, 0), (.iload_n 1, 1, 0, 0, 0), (.iconst 2, 1, 0, 0, 0), (.invokevirtual 60, 3, 0, 0, 3), (.if_icmp .gt 10, 3, 74, 0, 0), (.iconst 1, 1, 0, 0, 0), (.iload 5, 2, 0, 0, 0), (.ishl, 1, 0, 0, 0), (.goto 4, 3, 75, 0, 0)]
def b_L_reach_74 : List wAn := [(.iconst 0, 1, 0, 0, 0)]
def b_L_reach_75 : List wAn := [(.ior, 1, 0, 0, 0), (.istore 4, 2, 0, 0, 0), (.iinc 5 1, 3, 0, 0, 0), (.goto (-59), 3, 22, 0, 0)]
def b_L_reach_84 : List wAn := [(.aload_n 0, 1, 0, 0, 0), (.iload_n 1, 1, 0, 0, 0), (.invokevirtual 63, 3, 2, 0, 2), (.iload 4, 2, 0, 0, 0), (.if_icmp .ne 7, 3, 98, 0, 0), (.iconst 1, 1, 0, 0, 0), (.goto 4, 3, 99, 0, 0)]
def b_L_reach_98 : List wAn := [(.iconst 0, 1, 0, 0, 0)]
def b_L_reach_99 : List wAn := [(.ireturn, 1, 0, 0, 0)]
def q_L_reach : List (Nat × List wAn) := [(0, b_L_reach_0), (22, b_L_reach_22), (74, b_L_reach_74), (75, b_L_reach_75), (84, b_L_reach_84), (98, b_L_reach_98), (99, b_L_reach_99)]
abbrev ck_L_reach : List wAn → Nat → Bool := w_ckB o_L_reach RL vwCl 7 cL_reach ct_L_reach
theorem cq_L_reach : q_L_reach.all (fun q => ck_L_reach q.2 q.1) = true := by decide +kernel
def o_L_joined : List Cond := [.constantDouble RL 70 (UInt64.ofNat 4633078116657397760), .methodLink RL 45 yX3_soonest, .instanceMethod yX3_soonest, .selects RX3 yX3_soonest yX3_soonest, .initialized RX3, .code yX3_soonest cX3_soonest 4 (some .int), .methodLink RL 66 yX3_joined, .instanceMethod yX3_joined, .selects RX3 yX3_joined yX3_joined, .code yX3_joined cX3_joined 1 (some .double)]
theorem oi_L_joined : ∀ w ∈ o_L_joined, w ∈ wGT := wGT_of _ [497, 366, 367, 368, 19, 369, 488, 489, 490, 491] (by decide +kernel) (by decide +kernel)
def ct_L_joined : List (Instr × Nat) := [(.invokevirtual 45, 4), (.invokevirtual 66, 1)]
abbrev rm_L_joined : Room := { frames := 9, cells := 1, slots := 6, locals := 164 }
def b_L_joined_0 : List wAn := [(.iconst 0, 1, 0, 0, 0), (.istore_n 1, 1, 0, 0, 0), (.iconst 0, 1, 0, 0, 0), (.istore_n 2, 1, 0, 0, 0)]
def b_L_joined_4 : List wAn := [(.iload_n 2, 1, 0, 0, 0), (.bipush 64, 2, 0, 0, 0), (.if_icmp .ge 44, 3, 51, 0, 0), (.iload_n 1, 1, 0, 0, 0), (.iload_n 2, 1, 0, 0, 0), (.bipush 8, 2, 0, 0, 0), (.idiv, 1, 0, 0, 0), (.iload_n 2, 1, 0, 0, 0), (.bipush 8, 2, 0, 0, 0), (.irem, 1, 0, 0, 0), (.if_icmp .eq 23, 3, 42, 0, 0), (.aload_n 0, 1, 0, 0, 0), (.iload_n 2, 1, 0, 0, 0), (.bipush 8, 2, 0, 0, 0), (.idiv, 1, 0, 0, 0), (.iload_n 2, 1, 0, 0, 0), (.bipush 8, 2, 0, 0, 0), (.irem, 1, 0, 0, 0), (.iconst 0, 1, 0, 0, 0), (.invokevirtual 45, 3, 0, 0, 4), (.ifCond .lt 7, 3, 42, 0, 0), (.iconst 1, 1, 0, 0, 0), (.goto 4, 3, 43, 0, 0)]
def b_L_joined_42 : List wAn := [(.iconst 0, 1, 0, 0, 0)]
def b_L_joined_43 : List wAn := [(.iadd, 1, 0, 0, 0), (.istore_n 1, 1, 0, 0, 0), (.iinc 2 1, 3, 0, 0, 0), (.goto (-44), 3, 4, 0, 0)]
def b_L_joined_51 : List wAn := [(.aload_n 0, 1, 0, 0, 0), (.invokevirtual 66, 3, 1, 0, 1), (.iload_n 1, 1, 0, 0, 0), (.i2d, 1, 0, 0, 0), (.ldc2_w 70, 3, 4633078116657397760, 1, 0), (.ddiv, 1, 0, 0, 0), (.dcmp .l, 1, 0, 0, 0), (.ifCond .ne 7, 3, 69, 0, 0), (.iconst 1, 1, 0, 0, 0), (.goto 4, 3, 70, 0, 0)]
def b_L_joined_69 : List wAn := [(.iconst 0, 1, 0, 0, 0)]
def b_L_joined_70 : List wAn := [(.ireturn, 1, 0, 0, 0)]
def q_L_joined : List (Nat × List wAn) := [(0, b_L_joined_0), (4, b_L_joined_4), (42, b_L_joined_42), (43, b_L_joined_43), (51, b_L_joined_51), (69, b_L_joined_69), (70, b_L_joined_70)]
abbrev ck_L_joined : List wAn → Nat → Bool := w_ckB o_L_joined RL vwCl 3 cL_joined ct_L_joined
theorem cq_L_joined : q_L_joined.all (fun q => ck_L_joined q.2 q.1) = true := by decide +kernel
def o_L_act : List Cond := [.methodLink RL 9 yX3_count, .instanceMethod yX3_count, .selects RX3 yX3_count yX3_count, .initialized RX3, .code yX3_count cX3_count 2 (some .int), .methodLink RL 15 yL_low, .static yL_low, .initialized RL, .code yL_low cL_low 2 (some .int), .methodLink RL 25 yX3_ferryOf, .instanceMethod yX3_ferryOf, .selects RX3 yX3_ferryOf yX3_ferryOf, .code yX3_ferryOf cX3_ferryOf 3 (some .int), .methodLink RL 72 yX3_kind, .instanceMethod yX3_kind, .selects RX3 yX3_kind yX3_kind, .code yX3_kind cX3_kind 3 (some .int), .methodLink RL 75 yX3_clock, .instanceMethod yX3_clock, .selects RX3 yX3_clock yX3_clock, .code yX3_clock cX3_clock 3 (some .int), .methodLink RL 28 yX3_setting, .instanceMethod yX3_setting, .selects RX3 yX3_setting yX3_setting, .code yX3_setting cX3_setting 2 (some .int), .methodLink RL 78 yX3_set, .instanceMethod yX3_set, .selects RX3 yX3_set yX3_set, .code yX3_set cX3_set 4 (some .int), .methodLink RL 81 yX3_drop, .instanceMethod yX3_drop, .selects RX3 yX3_drop yX3_drop, .code yX3_drop cX3_drop 2 (some .int), .methodLink RL 60 yX3_traveller, .instanceMethod yX3_traveller, .selects RX3 yX3_traveller yX3_traveller, .code yX3_traveller cX3_traveller 3 (some .int), .methodLink RL 84 yX3_place, .instanceMethod yX3_place, .selects RX3 yX3_place yX3_place, .code yX3_place cX3_place 6 (some .int), .methodLink RL 87 yL_tell, .static yL_tell, .code yL_tell cL_tell 6 (some .boolean)]
theorem oi_L_act : ∀ w ∈ o_L_act, w ∈ wGT := wGT_of _ [137, 138, 139, 19, 140, 130, 131, 18, 132, 335, 336, 337, 338, 501, 502, 503, 504, 510, 511, 512, 513, 343, 344, 345, 346, 514, 515, 516, 517, 524, 525, 526, 527, 465, 466, 467, 468, 532, 533, 534, 535, 134, 135, 136] (by decide +kernel) (by decide +kernel)
def ct_L_act : List (Instr × Nat) := [(.invokevirtual 9, 2), (.invokestatic 15, 2), (.invokevirtual 25, 3), (.invokevirtual 72, 3), (.invokevirtual 75, 3), (.invokevirtual 28, 2), (.invokevirtual 78, 3), (.invokevirtual 81, 2), (.invokevirtual 60, 3), (.invokevirtual 84, 5), (.invokestatic 87, 3)]
abbrev rm_L_act : Room := { frames := 10, cells := 1, slots := 6, locals := 192 }
def b_L_act_0 : List wAn := [(.aload_n 0, 1, 0, 0, 0), (.iconst 0, 1, 0, 0, 0), (.invokevirtual 9, 3, 0, 0, 2), (.istore_n 3, 1, 0, 0, 0), (.iload_n 3, 1, 0, 0, 0), (.ifCond .ne 7, 3, 14, 0, 0), (.iconst 0, 1, 0, 0, 0), (.goto 10, 3, 21, 0, 0)]
def b_L_act_14 : List wAn := [(.iload_n 1, 1, 0, 0, 0), (.iconst 5, 1, 0, 0, 0), (.ishr, 1, 0, 0, 0), (.iload_n 3, 1, 0, 0, 0), (.invokestatic 15, 3, 1, 1, 2)]
def b_L_act_21 : List wAn := [(.istore 4, 2, 0, 0, 0), (.iload_n 1, 1, 0, 0, 0), (.bipush 8, 2, 0, 0, 0), (.invokestatic 15, 3, 1, 1, 2), (.istore 5, 2, 0, 0, 0), (.iload 5, 2, 0, 0, 0), (.ifCond .ne 55, 3, 88, 0, 0), (.iload_n 3, 1, 0, 0, 0), (.ifCond .le 51, 3, 88, 0, 0), (.aload_n 0, 1, 0, 0, 0), (.iload 4, 2, 0, 0, 0), (.bipush 6, 2, 0, 0, 0), (.invokevirtual 25, 3, 2, 0, 3), (.istore 6, 2, 0, 0, 0), (.aload_n 0, 1, 0, 0, 0), (.iload 4, 2, 0, 0, 0), (.iload_n 2, 1, 0, 0, 0), (.iconst 3, 1, 0, 0, 0), (.invokestatic 15, 3, 1, 1, 2), (.invokevirtual 72, 3, 3, 0, 3), (.iload 6, 2, 0, 0, 0), (.if_icmp .ne 23, 3, 86, 0, 0), (.aload_n 0, 1, 0, 0, 0), (.iload 4, 2, 0, 0, 0), (.bipush 6, 2, 0, 0, 0), (.invokevirtual 25, 3, 2, 0, 3), (.iload_n 2, 1, 0, 0, 0), (.iconst 3, 1, 0, 0, 0), (.invokestatic 15, 3, 1, 1, 2), (.if_icmp .ne 7, 3, 86, 0, 0), (.iconst 1, 1, 0, 0, 0), (.goto 4, 3, 87, 0, 0)]
def b_L_act_86 : List wAn := [(.iconst 0, 1, 0, 0, 0)]
def b_L_act_87 : List wAn := [(.ireturn, 1, 0, 0, 0)]
def b_L_act_88 : List wAn := [(.iload 5, 2, 0, 0, 0), (.iconst 1, 1, 0, 0, 0), (.if_icmp .ne 57, 3, 148, 0, 0), (.iload_n 3, 1, 0, 0, 0), (.ifCond .le 53, 3, 148, 0, 0), (.aload_n 0, 1, 0, 0, 0), (.iload 4, 2, 0, 0, 0), (.bipush 7, 2, 0, 0, 0), (.invokevirtual 25, 3, 2, 0, 3), (.istore 6, 2, 0, 0, 0), (.aload_n 0, 1, 0, 0, 0), (.iload 4, 2, 0, 0, 0), (.iload_n 2, 1, 0, 0, 0), (.bipush 60, 2, 0, 0, 0), (.invokestatic 15, 3, 1, 1, 2), (.invokevirtual 75, 3, 4, 0, 3), (.iload 6, 2, 0, 0, 0), (.if_icmp .ne 24, 3, 146, 0, 0), (.aload_n 0, 1, 0, 0, 0), (.iload 4, 2, 0, 0, 0), (.bipush 7, 2, 0, 0, 0), (.invokevirtual 25, 3, 2, 0, 3), (.iload_n 2, 1, 0, 0, 0), (.bipush 60, 2, 0, 0, 0), (.invokestatic 15, 3, 1, 1, 2), (.if_icmp .ne 7, 3, 146, 0, 0), (.iconst 1, 1, 0, 0, 0), (.goto 4, 3, 147, 0, 0)]
def b_L_act_146 : List wAn := [(.iconst 0, 1, 0, 0, 0)]
def b_L_act_147 : List wAn := [(.ireturn, 1, 0, 0, 0)]
def b_L_act_148 : List wAn := [(.iload 5, 2, 0, 0, 0), (.iconst 2, 1, 0, 0, 0), (.if_icmp .ne 48, 3, 199, 0, 0), (.aload_n 0, 1, 0, 0, 0), (.iconst 0, 1, 0, 0, 0), (.invokevirtual 28, 3, 5, 0, 2), (.istore 6, 2, 0, 0, 0), (.aload_n 0, 1, 0, 0, 0), (.iconst 0, 1, 0, 0, 0), (.iload_n 2, 1, 0, 0, 0), (.sipush 720, 3, 0, 0, 0), (.invokestatic 15, 3, 1, 1, 2), (.invokevirtual 78, 3, 6, 0, 3), (.iload 6, 2, 0, 0, 0), (.if_icmp .ne 22, 3, 197, 0, 0), (.aload_n 0, 1, 0, 0, 0), (.iconst 0, 1, 0, 0, 0), (.invokevirtual 28, 3, 5, 0, 2), (.iload_n 2, 1, 0, 0, 0), (.sipush 720, 3, 0, 0, 0), (.invokestatic 15, 3, 1, 1, 2), (.if_icmp .ne 7, 3, 197, 0, 0), (.iconst 1, 1, 0, 0, 0), (.goto 4, 3, 198, 0, 0)]
def b_L_act_197 : List wAn := [(.iconst 0, 1, 0, 0, 0)]
def b_L_act_198 : List wAn := [(.ireturn, 1, 0, 0, 0)]
def b_L_act_199 : List wAn := [(.iload 5, 2, 0, 0, 0), (.iconst 3, 1, 0, 0, 0), (.if_icmp .ne 46, 3, 248, 0, 0), (.aload_n 0, 1, 0, 0, 0), (.iconst 1, 1, 0, 0, 0), (.invokevirtual 28, 3, 5, 0, 2), (.istore 6, 2, 0, 0, 0), (.aload_n 0, 1, 0, 0, 0), (.iconst 1, 1, 0, 0, 0), (.iload_n 2, 1, 0, 0, 0), (.bipush 61, 2, 0, 0, 0), (.invokestatic 15, 3, 1, 1, 2), (.invokevirtual 78, 3, 6, 0, 3), (.iload 6, 2, 0, 0, 0), (.if_icmp .ne 21, 3, 246, 0, 0), (.aload_n 0, 1, 0, 0, 0), (.iconst 1, 1, 0, 0, 0), (.invokevirtual 28, 3, 5, 0, 2), (.iload_n 2, 1, 0, 0, 0), (.bipush 61, 2, 0, 0, 0), (.invokestatic 15, 3, 1, 1, 2), (.if_icmp .ne 7, 3, 246, 0, 0), (.iconst 1, 1, 0, 0, 0), (.goto 4, 3, 247, 0, 0)]
def b_L_act_246 : List wAn := [(.iconst 0, 1, 0, 0, 0)]
def b_L_act_247 : List wAn := [(.ireturn, 1, 0, 0, 0)]
def b_L_act_248 : List wAn := [(.iload 5, 2, 0, 0, 0), (.iconst 4, 1, 0, 0, 0), (.if_icmp .ne 66, 3, 317, 0, 0), (.iload_n 3, 1, 0, 0, 0), (.iconst 3, 1, 0, 0, 0), (.if_icmp .le 61, 3, 317, 0, 0), (.iload 4, 2, 0, 0, 0), (.iconst 1, 1, 0, 0, 0), (.iadd, 1, 0, 0, 0), (.iload_n 3, 1, 0, 0, 0), (.if_icmp .ge 15, 3, 279, 0, 0), (.aload_n 0, 1, 0, 0, 0), (.iload 4, 2, 0, 0, 0), (.iconst 1, 1, 0, 0, 0), (.iadd, 1, 0, 0, 0), (.iconst 5, 1, 0, 0, 0), (.invokevirtual 25, 3, 2, 0, 3), (.goto 4, 3, 280, 0, 0)]
def b_L_act_279 : List wAn := [(.iconst (-1), 1, 0, 0, 0)]
def b_L_act_280 : List wAn := [(.istore 6, 2, 0, 0, 0), (.aload_n 0, 1, 0, 0, 0), (.iload 4, 2, 0, 0, 0), (.invokevirtual 81, 3, 7, 0, 2), (.iload_n 3, 1, 0, 0, 0), (.iconst 1, 1, 0, 0, 0), (.isub, 1, 0, 0, 0), (.if_icmp .ne 24, 3, 315, 0, 0), (.iload 6, 2, 0, 0, 0), (.ifCond .lt 15, 3, 311, 0, 0), (.aload_n 0, 1, 0, 0, 0), (.iload 4, 2, 0, 0, 0), (.iconst 5, 1, 0, 0, 0), (.invokevirtual 25, 3, 2, 0, 3), (.iload 6, 2, 0, 0, 0), (.if_icmp .ne 7, 3, 315, 0, 0)]
def b_L_act_311 : List wAn := [(.iconst 1, 1, 0, 0, 0), (.goto 4, 3, 316, 0, 0)]
def b_L_act_315 : List wAn := [(.iconst 0, 1, 0, 0, 0)]
def b_L_act_316 : List wAn := [(.ireturn, 1, 0, 0, 0)]
def b_L_act_317 : List wAn := [(.iload 5, 2, 0, 0, 0), (.iconst 5, 1, 0, 0, 0), (.if_icmp .ne 86, 3, 406, 0, 0), (.aload_n 0, 1, 0, 0, 0), (.iload_n 2, 1, 0, 0, 0), (.iconst 4, 1, 0, 0, 0), (.invokestatic 15, 3, 1, 1, 2), (.iconst 2, 1, 0, 0, 0), (.invokevirtual 60, 3, 8, 0, 3), (.istore 6, 2, 0, 0, 0), (.aload_n 0, 1, 0, 0, 0), (.iload_n 2, 1, 0, 0, 0), (.iconst 4, 1, 0, 0, 0), (.invokestatic 15, 3, 1, 1, 2), (.iload_n 2, 1, 0, 0, 0), (.iconst 3, 1, 0, 0, 0), (.ishr, 1, 0, 0, 0), (.bipush 8, 2, 0, 0, 0), (.invokestatic 15, 3, 1, 1, 2), (.iload_n 2, 1, 0, 0, 0), (.bipush 6, 2, 0, 0, 0), (.ishr, 1, 0, 0, 0), (.sipush 1440, 3, 0, 0, 0), (.invokestatic 15, 3, 1, 1, 2), (.iload_n 2, 1, 0, 0, 0), (.bipush 12, 2, 0, 0, 0), (.ishr, 1, 0, 0, 0), (.sipush 1000, 3, 0, 0, 0), (.invokestatic 15, 3, 1, 1, 2), (.invokevirtual 84, 3, 9, 0, 5), (.iload 6, 2, 0, 0, 0), (.if_icmp .ne 30, 3, 404, 0, 0), (.aload_n 0, 1, 0, 0, 0), (.iload_n 2, 1, 0, 0, 0), (.iconst 4, 1, 0, 0, 0), (.invokestatic 15, 3, 1, 1, 2), (.iconst 1, 1, 0, 0, 0), (.invokevirtual 60, 3, 8, 0, 3), (.iload_n 2, 1, 0, 0, 0), (.bipush 6, 2, 0, 0, 0), (.ishr, 1, 0, 0, 0), (.sipush 1440, 3, 0, 0, 0), (.invokestatic 15, 3, 1, 1, 2), (.if_icmp .ne 7, 3, 404, 0, 0), (.iconst 1, 1, 0, 0, 0), (.goto 4, 3, 405, 0, 0)]
def b_L_act_404 : List wAn := [(.iconst 0, 1, 0, 0, 0)]
def b_L_act_405 : List wAn := [(.ireturn, 1, 0, 0, 0)]
def b_L_act_406 : List wAn := [(.aload_n 0, 1, 0, 0, 0), (.iload_n 1, 1, 0, 0, 0), (.iconst 3, 1, 0, 0, 0), (.ishr, 1, 0, 0, 0), (.iload_n 2, 1, 0, 0, 0), (.invokestatic 87, 3, 10, 0, 3), (.ireturn, 1, 0, 0, 0)]
def q_L_act : List (Nat × List wAn) := [(0, b_L_act_0), (14, b_L_act_14), (21, b_L_act_21), (86, b_L_act_86), (87, b_L_act_87), (88, b_L_act_88), (146, b_L_act_146), (147, b_L_act_147), (148, b_L_act_148), (197, b_L_act_197), (198, b_L_act_198), (199, b_L_act_199), (246, b_L_act_246), (247, b_L_act_247), (248, b_L_act_248), (279, b_L_act_279), (280, b_L_act_280), (311, b_L_act_311), (315, b_L_act_315), (316, b_L_act_316), (317, b_L_act_317), (404, b_L_act_404), (405, b_L_act_405), (406, b_L_act_406)]
abbrev ck_L_act : List wAn → Nat → Bool := w_ckB o_L_act RL vwCl 7 cL_act ct_L_act
theorem cq_L_act : q_L_act.all (fun q => ck_L_act q.2 q.1) = true := by decide +kernel
def o_L_law : List Cond := [.methodLink RL 91 yL_cell, .static yL_cell, .initialized RL, .code yL_cell cL_cell 2 (some .int), .methodLink RL 87 yL_tell, .static yL_tell, .code yL_tell cL_tell 6 (some .boolean), .methodLink RL 95 yL_act, .static yL_act, .code yL_act cL_act 7 (some .boolean), .methodLink RL 15 yL_low, .static yL_low, .code yL_low cL_low 2 (some .int), .methodLink RL 98 yL_ferries, .static yL_ferries, .code yL_ferries cL_ferries 6 (some .boolean), .methodLink RL 104 yL_cheapest, .static yL_cheapest, .code yL_cheapest cL_cheapest 10 (some .boolean), .methodLink RL 107 yL_lastStart, .static yL_lastStart, .code yL_lastStart cL_lastStart 7 (some .boolean), .methodLink RL 110 yL_reach, .static yL_reach, .code yL_reach cL_reach 7 (some .boolean), .methodLink RL 112 yL_joined, .static yL_joined, .code yL_joined cL_joined 3 (some .boolean)]
theorem oi_L_law : ∀ w ∈ o_L_law, w ∈ wGT := wGT_of _ [126, 127, 18, 128, 134, 135, 136, 498, 499, 500, 130, 131, 132, 302, 303, 304, 391, 392, 393, 434, 435, 436, 462, 463, 464, 485, 486, 487] (by decide +kernel) (by decide +kernel)
def ct_L_law : List (Instr × Nat) := [(.invokestatic 91, 2), (.invokestatic 87, 3), (.invokestatic 95, 3), (.invokestatic 15, 2), (.invokestatic 98, 2), (.invokestatic 104, 5), (.invokestatic 107, 4), (.invokestatic 110, 2), (.invokestatic 112, 1)]
abbrev rm_L_law : Room := { frames := 12, cells := 0, slots := 0, locals := 237 }
def b_L_law_7 : List wAn := [(.astore_n 1, 1, 0, 0, 0), (.iconst 0, 1, 0, 0, 0), (.istore_n 2, 1, 0, 0, 0)]
def b_L_law_10 : List wAn := [(.iload_n 2, 1, 0, 0, 0), (.bipush 7, 2, 0, 0, 0), (.if_icmp .ge 34, 3, 47, 0, 0), (.aload_n 1, 1, 0, 0, 0), (.aload_n 0, 1, 0, 0, 0), (.iconst 2, 1, 0, 0, 0), (.iload_n 2, 1, 0, 0, 0), (.imul, 1, 0, 0, 0), (.invokestatic 91, 3, 0, 1, 2), (.aload_n 0, 1, 0, 0, 0), (.iconst 2, 1, 0, 0, 0), (.iload_n 2, 1, 0, 0, 0), (.imul, 1, 0, 0, 0), (.iconst 1, 1, 0, 0, 0), (.iadd, 1, 0, 0, 0), (.invokestatic 91, 3, 0, 1, 2), (.invokestatic 87, 3, 1, 0, 3), (.ifCond .ne 5, 3, 41, 0, 0), (.iconst 0, 1, 0, 0, 0), (.ireturn, 1, 0, 0, 0)]
def b_L_law_41 : List wAn := [(.iinc 2 1, 3, 0, 0, 0), (.goto (-34), 3, 10, 0, 0)]
def b_L_law_47 : List wAn := [(.iconst 0, 1, 0, 0, 0), (.istore_n 2, 1, 0, 0, 0)]
def b_L_law_49 : List wAn := [(.iload_n 2, 1, 0, 0, 0), (.bipush 10, 2, 0, 0, 0), (.if_icmp .ge 194, 3, 246, 0, 0), (.aload_n 0, 1, 0, 0, 0), (.bipush 14, 2, 0, 0, 0), (.iconst 2, 1, 0, 0, 0), (.iload_n 2, 1, 0, 0, 0), (.imul, 1, 0, 0, 0), (.iadd, 1, 0, 0, 0), (.invokestatic 91, 3, 0, 1, 2), (.istore_n 3, 1, 0, 0, 0), (.aload_n 0, 1, 0, 0, 0), (.bipush 15, 2, 0, 0, 0), (.iconst 2, 1, 0, 0, 0), (.iload_n 2, 1, 0, 0, 0), (.imul, 1, 0, 0, 0), (.iadd, 1, 0, 0, 0), (.invokestatic 91, 3, 0, 1, 2), (.istore 4, 2, 0, 0, 0), (.aload_n 1, 1, 0, 0, 0), (.iload_n 3, 1, 0, 0, 0), (.iload 4, 2, 0, 0, 0), (.invokestatic 95, 3, 2, 0, 3), (.ifCond .ne 5, 3, 90, 0, 0), (.iconst 0, 1, 0, 0, 0), (.ireturn, 1, 0, 0, 0)]
def b_L_law_90 : List wAn := [(.iload_n 3, 1, 0, 0, 0), (.bipush 7, 2, 0, 0, 0), (.ishr, 1, 0, 0, 0), (.bipush 6, 2, 0, 0, 0), (.invokestatic 15, 3, 3, 1, 2), (.istore 5, 2, 0, 0, 0), (.iload 4, 2, 0, 0, 0), (.bipush 7, 2, 0, 0, 0), (.ishr, 1, 0, 0, 0), (.bipush 6, 2, 0, 0, 0), (.invokestatic 15, 3, 3, 1, 2), (.istore 6, 2, 0, 0, 0), (.iload_n 3, 1, 0, 0, 0), (.bipush 10, 2, 0, 0, 0), (.ishr, 1, 0, 0, 0), (.iload 4, 2, 0, 0, 0), (.iconst 3, 1, 0, 0, 0), (.invokestatic 15, 3, 3, 1, 2), (.ifCond .ne 9, 3, 132, 0, 0), (.sipush 1440, 3, 0, 0, 0), (.goto 6, 3, 135, 0, 0)]
def b_L_law_132 : List wAn := [(.sipush 300, 3, 0, 0, 0)]
def b_L_law_135 : List wAn := [(.invokestatic 15, 3, 3, 1, 2), (.istore 7, 2, 0, 0, 0), (.iload 7, 2, 0, 0, 0), (.iload 4, 2, 0, 0, 0), (.bipush 10, 2, 0, 0, 0), (.ishr, 1, 0, 0, 0), (.sipush 1540, 3, 0, 0, 0), (.iload 7, 2, 0, 0, 0), (.isub, 1, 0, 0, 0), (.invokestatic 15, 3, 3, 1, 2), (.iadd, 1, 0, 0, 0), (.istore 8, 2, 0, 0, 0), (.aload_n 1, 1, 0, 0, 0), (.iload_n 3, 1, 0, 0, 0), (.iload 4, 2, 0, 0, 0), (.ixor, 1, 0, 0, 0), (.invokestatic 98, 3, 4, 0, 2), (.ifCond .eq 42, 3, 209, 0, 0), (.aload_n 1, 1, 0, 0, 0), (.iload 5, 2, 0, 0, 0), (.iload 7, 2, 0, 0, 0)]
def b_L_law_178 : List wAn := [(.ifCond .eq 31, 3, 209, 0, 0), (.aload_n 1, 1, 0, 0, 0), (.iload 5, 2, 0, 0, 0), (.iload 6, 2, 0, 0, 0), (.iload 7, 2, 0, 0, 0), (.iload 8, 2, 0, 0, 0), (.invokestatic 104, 3, 5, 0, 5), (.ifCond .eq 16, 3, 209, 0, 0), (.aload_n 1, 1, 0, 0, 0), (.iload 5, 2, 0, 0, 0), (.iload 6, 2, 0, 0, 0), (.iload 8, 2, 0, 0, 0), (.invokestatic 107, 3, 6, 0, 4), (.ifCond .ne 5, 3, 211, 0, 0)]
def b_L_law_209 : List wAn := [(.iconst 0, 1, 0, 0, 0), (.ireturn, 1, 0, 0, 0)]
def b_L_law_211 : List wAn := [(.iload_n 2, 1, 0, 0, 0), (.iconst 5, 1, 0, 0, 0), (.irem, 1, 0, 0, 0), (.iconst 4, 1, 0, 0, 0), (.if_icmp .ne 25, 3, 240, 0, 0), (.aload_n 1, 1, 0, 0, 0), (.iload 4, 2, 0, 0, 0), (.iconst 4, 1, 0, 0, 0), (.invokestatic 15, 3, 3, 1, 2), (.invokestatic 110, 3, 7, 0, 2), (.ifCond .eq 10, 3, 238, 0, 0), (.aload_n 1, 1, 0, 0, 0), (.invokestatic 112, 3, 8, 0, 1), (.ifCond .ne 5, 3, 240, 0, 0)]
def b_L_law_238 : List wAn := [(.iconst 0, 1, 0, 0, 0), (.ireturn, 1, 0, 0, 0)]
def b_L_law_240 : List wAn := [(.iinc 2 1, 3, 0, 0, 0), (.goto (-194), 3, 49, 0, 0)]
def b_L_law_246 : List wAn := [(.iconst 1, 1, 0, 0, 0), (.ireturn, 1, 0, 0, 0)]
def q_L_law : List (Nat × List wAn) := [(7, b_L_law_7), (10, b_L_law_10), (41, b_L_law_41), (47, b_L_law_47), (49, b_L_law_49), (90, b_L_law_90), (132, b_L_law_132), (135, b_L_law_135), (178, b_L_law_178), (209, b_L_law_209), (211, b_L_law_211), (238, b_L_law_238), (240, b_L_law_240), (246, b_L_law_246)]
abbrev ck_L_law : List wAn → Nat → Bool := w_ckB o_L_law RL vwCl 9 cL_law ct_L_law
theorem cq_L_law : q_L_law.all (fun q => ck_L_law q.2 q.1) = true := by decide +kernel
def o_J9_min_7cf53 : List Cond := []
theorem oi_J9_min_7cf53 : ∀ w ∈ o_J9_min_7cf53, w ∈ wGT := wGT_of _ [] (by decide +kernel) (by decide +kernel)
def ct_J9_min_7cf53 : List (Instr × Nat) := []
abbrev rm_J9_min_7cf53 : Room := { frames := 0, cells := 0, slots := 0, locals := 0 }
def b_J9_min_7cf53_0 : List wAn := [(.iload_n 0, 1, 0, 0, 0), (.iload_n 1, 1, 0, 0, 0), (.if_icmp .gt 7, 3, 9, 0, 0), (.iload_n 0, 1, 0, 0, 0), (.goto 4, 3, 10, 0, 0)]
def b_J9_min_7cf53_9 : List wAn := [(.iload_n 1, 1, 0, 0, 0)]
def b_J9_min_7cf53_10 : List wAn := [(.ireturn, 1, 0, 0, 0)]
def q_J9_min_7cf53 : List (Nat × List wAn) := [(0, b_J9_min_7cf53_0), (9, b_J9_min_7cf53_9), (10, b_J9_min_7cf53_10)]
abbrev ck_J9_min_7cf53 : List wAn → Nat → Bool := w_ckB o_J9_min_7cf53 RJ9 vwCl 2 cJ9_min_7cf53 ct_J9_min_7cf53
theorem cq_J9_min_7cf53 : q_J9_min_7cf53.all (fun q => ck_J9_min_7cf53 q.2 q.1) = true := by decide +kernel
def o_J7_fill_53178 : List Cond := []
theorem oi_J7_fill_53178 : ∀ w ∈ o_J7_fill_53178, w ∈ wGT := wGT_of _ [] (by decide +kernel) (by decide +kernel)
def ct_J7_fill_53178 : List (Instr × Nat) := []
abbrev rm_J7_fill_53178 : Room := { frames := 0, cells := 0, slots := 0, locals := 0 }
def b_J7_fill_53178_0 : List wAn := [(.iconst 0, 1, 0, 0, 0), (.istore_n 2, 1, 0, 0, 0), (.aload_n 0, 1, 0, 0, 0), (.arraylength, 1, 0, 0, 0), (.istore_n 3, 1, 0, 0, 0)]
def b_J7_fill_53178_5 : List wAn := [(.iload_n 2, 1, 0, 0, 0), (.iload_n 3, 1, 0, 0, 0), (.if_icmp .ge 13, 3, 20, 0, 0), (.aload_n 0, 1, 0, 0, 0), (.iload_n 2, 1, 0, 0, 0), (.iload_n 1, 1, 0, 0, 0), (.iastore, 1, 0, 0, 0), (.iinc 2 1, 3, 0, 0, 0), (.goto (-12), 3, 5, 0, 0)]
def b_J7_fill_53178_20 : List wAn := [(.return_, 1, 0, 0, 0)]
def q_J7_fill_53178 : List (Nat × List wAn) := [(0, b_J7_fill_53178_0), (5, b_J7_fill_53178_5), (20, b_J7_fill_53178_20)]
abbrev ck_J7_fill_53178 : List wAn → Nat → Bool := w_ckB o_J7_fill_53178 RJ7 vwCl 4 cJ7_fill_53178 ct_J7_fill_53178
theorem cq_J7_fill_53178 : q_J7_fill_53178.all (fun q => ck_J7_fill_53178 q.2 q.1) = true := by decide +kernel
end WGEN
