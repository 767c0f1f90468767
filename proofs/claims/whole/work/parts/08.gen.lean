section WGEN
def o_X3_ferry : List Cond := [.fieldLink RX3 12 RX3 "sea" "LTideFares$Sea;", .methodLink RX3 41 yX3_checkIsland, .static yX3_checkIsland, .initialized RX3, .code yX3_checkIsland cX3_checkIsland 1 none, .methodLink RX3 45 yX3_checkArgument, .static yX3_checkArgument, .code yX3_checkArgument cX3_checkArgument 1 none, .methodLink RX3 49 yX3_checkFerryNumber, .static yX3_checkFerryNumber, .code yX3_checkFerryNumber cX3_checkFerryNumber 2 none, .methodLink RX3 53 yX1_ferryCount, .instanceMethod yX1_ferryCount, .selects RX1 yX1_ferryCount yX1_ferryCount, .initialized RX1, .code yX1_ferryCount cX1_ferryCount 1 (some .int), .methodLink RX3 57 yX3_checkState, .static yX3_checkState, .code yX3_checkState cX3_checkState 1 none, .methodLink RX3 60 yX3_save, .instanceMethod yX3_save, .selects RX3 yX3_save yX3_save, .code yX3_save cX3_save 1 none, .methodLink RX3 63 yX1_tell, .instanceMethod yX1_tell, .selects RX1 yX1_tell yX1_tell, .code yX1_tell cX1_tell 9 none] ++ wsX30
theorem oi_X3_ferry : ∀ w ∈ o_X3_ferry, w ∈ wGT := wGT_of _ [144, 403, 404, 53, 405, 478, 479, 480, 497, 498, 499, 273, 232, 233, 54, 234, 502, 503, 504, 521, 523, 25, 524, 532, 533, 534, 535, 150, 152, 154, 156, 158, 160] (by decide +kernel) (by decide +kernel)
def ct_X3_ferry : List (Instr × Nat) := [(.invokestatic 41, 1), (.invokestatic 45, 1), (.invokestatic 49, 2), (.invokevirtual 53, 1), (.invokestatic 57, 1), (.invokevirtual 60, 1), (.invokevirtual 63, 8)]
abbrev rm_X3_ferry : Room := { frames := 8, cells := 1, slots := 6, locals := 141 }
def b_X3_ferry_0 : List wAn := [(.iload_n 1, 1, 0, 0, 0), (.invokestatic 41, 3, 0, 1, 1), (.iload_n 2, 1, 0, 0, 0), (.invokestatic 41, 3, 0, 1, 1), (.iload_n 1, 1, 0, 0, 0), (.iload_n 2, 1, 0, 0, 0), (.if_icmp .eq 7, 3, 17, 0, 0), (.iconst 1, 1, 0, 0, 0), (.goto 4, 3, 18, 0, 0)]
def b_X3_ferry_17 : List wAn := [(.iconst 0, 1, 0, 0, 0)]
def b_X3_ferry_18 : List wAn := [(.invokestatic 45, 3, 1, 1, 1), (.iconst 2, 1, 0, 0, 0), (.iload_n 3, 1, 0, 0, 0), (.invokestatic 49, 3, 2, 1, 2), (.iconst 3, 1, 0, 0, 0), (.iload 4, 2, 0, 0, 0), (.invokestatic 49, 3, 2, 1, 2), (.iconst 4, 1, 0, 0, 0), (.iload 5, 2, 0, 0, 0), (.invokestatic 49, 3, 2, 1, 2), (.iconst 5, 1, 0, 0, 0), (.iload 6, 2, 0, 0, 0), (.invokestatic 49, 3, 2, 1, 2), (.aload_n 0, 1, 0, 0, 0), (.getfield 12, 3, 0, 3, 0), (.invokevirtual 53, 3, 3, 1102, 1), (.bipush 14, 2, 0, 0, 0), (.if_icmp .ge 7, 3, 60, 0, 0), (.iconst 1, 1, 0, 0, 0), (.goto 4, 3, 61, 0, 0)]
def b_X3_ferry_60 : List wAn := [(.iconst 0, 1, 0, 0, 0)]
def b_X3_ferry_61 : List wAn := [(.invokestatic 57, 3, 4, 1, 1), (.aload_n 0, 1, 0, 0, 0), (.invokevirtual 60, 3, 5, 0, 1), (.aload_n 0, 1, 0, 0, 0), (.getfield 12, 3, 0, 3, 0), (.iload_n 1, 1, 0, 0, 0), (.iload_n 2, 1, 0, 0, 0), (.iload_n 3, 1, 0, 0, 0), (.iload 4, 2, 0, 0, 0), (.iload 5, 2, 0, 0, 0), (.iload 6, 2, 0, 0, 0), (.iconst 0, 1, 0, 0, 0), (.invokevirtual 63, 3, 6, 1102, 8), (.aload_n 0, 1, 0, 0, 0), (.getfield 12, 3, 0, 3, 0), (.invokevirtual 53, 3, 3, 1102, 1), (.iconst 1, 1, 0, 0, 0), (.isub, 1, 0, 0, 0), (.ireturn, 1, 0, 0, 0)]
def q_X3_ferry : List (Nat × List wAn) := [(0, b_X3_ferry_0), (17, b_X3_ferry_17), (18, b_X3_ferry_18), (60, b_X3_ferry_60), (61, b_X3_ferry_61)]
abbrev ck_X3_ferry : List wAn → Nat → Bool := w_ckB o_X3_ferry RX3 vwCl 7 cX3_ferry ct_X3_ferry
theorem cq_X3_ferry : q_X3_ferry.all (fun q => ck_X3_ferry q.2 q.1) = true := by decide +kernel
def o_X3_drop : List Cond := [.fieldLink RX3 12 RX3 "sea" "LTideFares$Sea;", .methodLink RX3 67 yX3_checkFerry, .instanceMethod yX3_checkFerry, .selects RX3 yX3_checkFerry yX3_checkFerry, .initialized RX3, .code yX3_checkFerry cX3_checkFerry 2 none, .methodLink RX3 60 yX3_save, .instanceMethod yX3_save, .selects RX3 yX3_save yX3_save, .code yX3_save cX3_save 1 none, .methodLink RX3 70 yX1_forget, .instanceMethod yX1_forget, .selects RX1 yX1_forget yX1_forget, .initialized RX1, .code yX1_forget cX1_forget 4 none, .methodLink RX3 53 yX1_ferryCount, .instanceMethod yX1_ferryCount, .selects RX1 yX1_ferryCount yX1_ferryCount, .code yX1_ferryCount cX1_ferryCount 1 (some .int)] ++ wsX30
theorem oi_X3_drop : ∀ w ∈ o_X3_drop, w ∈ wGT := wGT_of _ [144, 547, 549, 26, 53, 550, 521, 523, 25, 524, 551, 552, 553, 54, 554, 273, 232, 233, 234, 150, 152, 154, 156, 158, 160] (by decide +kernel) (by decide +kernel)
def ct_X3_drop : List (Instr × Nat) := [(.invokevirtual 67, 2), (.invokevirtual 60, 1), (.invokevirtual 70, 2), (.invokevirtual 53, 1)]
abbrev rm_X3_drop : Room := { frames := 8, cells := 1, slots := 6, locals := 142 }
def b_X3_drop_0 : List wAn := [(.aload_n 0, 1, 0, 0, 0), (.iload_n 1, 1, 0, 0, 0), (.invokevirtual 67, 3, 0, 0, 2), (.aload_n 0, 1, 0, 0, 0), (.invokevirtual 60, 3, 1, 0, 1), (.aload_n 0, 1, 0, 0, 0), (.getfield 12, 3, 0, 3, 0), (.iload_n 1, 1, 0, 0, 0), (.invokevirtual 70, 3, 2, 1102, 2), (.aload_n 0, 1, 0, 0, 0), (.getfield 12, 3, 0, 3, 0), (.invokevirtual 53, 3, 3, 1102, 1), (.ireturn, 1, 0, 0, 0)]
def q_X3_drop : List (Nat × List wAn) := [(0, b_X3_drop_0)]
abbrev ck_X3_drop : List wAn → Nat → Bool := w_ckB o_X3_drop RX3 vwCl 2 cX3_drop ct_X3_drop
theorem cq_X3_drop : q_X3_drop.all (fun q => ck_X3_drop q.2 q.1) = true := by decide +kernel
def o_X3_kind : List Cond := [.methodLink RX3 67 yX3_checkFerry, .instanceMethod yX3_checkFerry, .selects RX3 yX3_checkFerry yX3_checkFerry, .initialized RX3, .code yX3_checkFerry cX3_checkFerry 2 none, .methodLink RX3 49 yX3_checkFerryNumber, .static yX3_checkFerryNumber, .code yX3_checkFerryNumber cX3_checkFerryNumber 2 none, .methodLink RX3 73 yX3_changeFerry, .instanceMethod yX3_changeFerry, .selects RX3 yX3_changeFerry yX3_changeFerry, .code yX3_changeFerry cX3_changeFerry 5 (some .int)]
theorem oi_X3_kind : ∀ w ∈ o_X3_kind, w ∈ wGT := wGT_of _ [547, 549, 26, 53, 550, 497, 498, 499, 562, 564, 27, 565] (by decide +kernel) (by decide +kernel)
def ct_X3_kind : List (Instr × Nat) := [(.invokevirtual 67, 2), (.invokestatic 49, 2), (.invokevirtual 73, 4)]
abbrev rm_X3_kind : Room := { frames := 8, cells := 1, slots := 6, locals := 142 }
def b_X3_kind_0 : List wAn := [(.aload_n 0, 1, 0, 0, 0), (.iload_n 1, 1, 0, 0, 0), (.invokevirtual 67, 3, 0, 0, 2), (.bipush 6, 2, 0, 0, 0), (.iload_n 2, 1, 0, 0, 0), (.invokestatic 49, 3, 1, 1, 2), (.aload_n 0, 1, 0, 0, 0), (.iload_n 1, 1, 0, 0, 0), (.bipush 6, 2, 0, 0, 0), (.iload_n 2, 1, 0, 0, 0), (.invokevirtual 73, 3, 2, 0, 4), (.ireturn, 1, 0, 0, 0)]
def q_X3_kind : List (Nat × List wAn) := [(0, b_X3_kind_0)]
abbrev ck_X3_kind : List wAn → Nat → Bool := w_ckB o_X3_kind RX3 vwCl 3 cX3_kind ct_X3_kind
theorem cq_X3_kind : q_X3_kind.all (fun q => ck_X3_kind q.2 q.1) = true := by decide +kernel
def o_X3_clock : List Cond := [.methodLink RX3 67 yX3_checkFerry, .instanceMethod yX3_checkFerry, .selects RX3 yX3_checkFerry yX3_checkFerry, .initialized RX3, .code yX3_checkFerry cX3_checkFerry 2 none, .methodLink RX3 49 yX3_checkFerryNumber, .static yX3_checkFerryNumber, .code yX3_checkFerryNumber cX3_checkFerryNumber 2 none, .methodLink RX3 73 yX3_changeFerry, .instanceMethod yX3_changeFerry, .selects RX3 yX3_changeFerry yX3_changeFerry, .code yX3_changeFerry cX3_changeFerry 5 (some .int)]
theorem oi_X3_clock : ∀ w ∈ o_X3_clock, w ∈ wGT := wGT_of _ [547, 549, 26, 53, 550, 497, 498, 499, 562, 564, 27, 565] (by decide +kernel) (by decide +kernel)
def ct_X3_clock : List (Instr × Nat) := [(.invokevirtual 67, 2), (.invokestatic 49, 2), (.invokevirtual 73, 4)]
abbrev rm_X3_clock : Room := { frames := 8, cells := 1, slots := 6, locals := 142 }
def b_X3_clock_0 : List wAn := [(.aload_n 0, 1, 0, 0, 0), (.iload_n 1, 1, 0, 0, 0), (.invokevirtual 67, 3, 0, 0, 2), (.bipush 7, 2, 0, 0, 0), (.iload_n 2, 1, 0, 0, 0), (.invokestatic 49, 3, 1, 1, 2), (.aload_n 0, 1, 0, 0, 0), (.iload_n 1, 1, 0, 0, 0), (.bipush 7, 2, 0, 0, 0), (.iload_n 2, 1, 0, 0, 0), (.invokevirtual 73, 3, 2, 0, 4), (.ireturn, 1, 0, 0, 0)]
def q_X3_clock : List (Nat × List wAn) := [(0, b_X3_clock_0)]
abbrev ck_X3_clock : List wAn → Nat → Bool := w_ckB o_X3_clock RX3 vwCl 3 cX3_clock ct_X3_clock
theorem cq_X3_clock : q_X3_clock.all (fun q => ck_X3_clock q.2 q.1) = true := by decide +kernel
def o_X3_set : List Cond := [.fieldLink RX3 80 RX3 "MOST_OF_SETTING" "[I", .fieldLink RX3 12 RX3 "sea" "LTideFares$Sea;", .methodLink RX3 77 yX3_checkIndex, .static yX3_checkIndex, .initialized RX3, .code yX3_checkIndex cX3_checkIndex 2 none, .methodLink RX3 83 yX3_isWithin, .static yX3_isWithin, .code yX3_isWithin cX3_isWithin 3 (some .boolean), .methodLink RX3 45 yX3_checkArgument, .static yX3_checkArgument, .code yX3_checkArgument cX3_checkArgument 1 none, .methodLink RX3 60 yX3_save, .instanceMethod yX3_save, .selects RX3 yX3_save yX3_save, .code yX3_save cX3_save 1 none, .methodLink RX3 87 yX1_settingValue, .instanceMethod yX1_settingValue, .selects RX1 yX1_settingValue yX1_settingValue, .initialized RX1, .code yX1_settingValue cX1_settingValue 2 (some .int), .methodLink RX3 91 yX1_changeSetting, .instanceMethod yX1_changeSetting, .selects RX1 yX1_changeSetting yX1_changeSetting, .code yX1_changeSetting cX1_changeSetting 3 none] ++ wsX30
theorem oi_X3_set : ∀ w ∈ o_X3_set, w ∈ wGT := wGT_of _ [581, 144, 406, 407, 53, 408, 409, 200, 201, 478, 479, 480, 521, 523, 25, 524, 286, 287, 288, 54, 289, 583, 584, 585, 586, 150, 152, 154, 156, 158, 160] (by decide +kernel) (by decide +kernel)
def ct_X3_set : List (Instr × Nat) := [(.invokestatic 77, 2), (.invokestatic 83, 3), (.invokestatic 45, 1), (.invokevirtual 60, 1), (.invokevirtual 87, 2), (.invokevirtual 91, 3)]
abbrev rm_X3_set : Room := { frames := 7, cells := 1, slots := 6, locals := 121 }
def b_X3_set_0 : List wAn := [(.iload_n 1, 1, 0, 0, 0), (.iconst 2, 1, 0, 0, 0), (.invokestatic 77, 3, 0, 1, 2), (.iload_n 2, 1, 0, 0, 0), (.iconst 0, 1, 0, 0, 0), (.getstatic 80, 3, 2, 0, 0), (.iload_n 1, 1, 0, 0, 0), (.iaload, 1, 2, 1, 0), (.invokestatic 83, 3, 1, 1, 3), (.invokestatic 45, 3, 2, 1, 1), (.aload_n 0, 1, 0, 0, 0), (.invokevirtual 60, 3, 3, 0, 1), (.aload_n 0, 1, 0, 0, 0), (.getfield 12, 3, 0, 3, 0), (.iload_n 1, 1, 0, 0, 0), (.invokevirtual 87, 3, 4, 1102, 2), (.istore_n 3, 1, 0, 0, 0), (.aload_n 0, 1, 0, 0, 0), (.getfield 12, 3, 0, 3, 0), (.iload_n 1, 1, 0, 0, 0), (.iload_n 2, 1, 0, 0, 0), (.invokevirtual 91, 3, 5, 1102, 3), (.iload_n 3, 1, 0, 0, 0), (.ireturn, 1, 0, 0, 0)]
def q_X3_set : List (Nat × List wAn) := [(0, b_X3_set_0)]
abbrev ck_X3_set : List wAn → Nat → Bool := w_ckB o_X3_set RX3 vwCl 4 cX3_set ct_X3_set
theorem cq_X3_set : q_X3_set.all (fun q => ck_X3_set q.2 q.1) = true := by decide +kernel
def o_X3_place : List Cond := [.fieldLink RX3 12 RX3 "sea" "LTideFares$Sea;", .methodLink RX3 94 yX3_checkTraveller, .static yX3_checkTraveller, .initialized RX3, .code yX3_checkTraveller cX3_checkTraveller 1 none, .methodLink RX3 41 yX3_checkIsland, .static yX3_checkIsland, .code yX3_checkIsland cX3_checkIsland 1 none, .methodLink RX3 83 yX3_isWithin, .static yX3_isWithin, .code yX3_isWithin cX3_isWithin 3 (some .boolean), .methodLink RX3 45 yX3_checkArgument, .static yX3_checkArgument, .code yX3_checkArgument cX3_checkArgument 1 none, .methodLink RX3 60 yX3_save, .instanceMethod yX3_save, .selects RX3 yX3_save yX3_save, .code yX3_save cX3_save 1 none, .methodLink RX3 97 yX1_travellerNumber, .instanceMethod yX1_travellerNumber, .selects RX1 yX1_travellerNumber yX1_travellerNumber, .initialized RX1, .code yX1_travellerNumber cX1_travellerNumber 3 (some .int), .methodLink RX3 101 yX1_changeTraveller, .instanceMethod yX1_changeTraveller, .selects RX1 yX1_changeTraveller yX1_changeTraveller, .code yX1_changeTraveller cX1_changeTraveller 4 none] ++ wsX30
theorem oi_X3_place : ∀ w ∈ o_X3_place, w ∈ wGT := wGT_of _ [144, 594, 595, 53, 596, 403, 404, 405, 409, 200, 201, 478, 479, 480, 521, 523, 25, 524, 308, 279, 280, 54, 281, 597, 598, 599, 600, 150, 152, 154, 156, 158, 160] (by decide +kernel) (by decide +kernel)
def ct_X3_place : List (Instr × Nat) := [(.invokestatic 94, 1), (.invokestatic 41, 1), (.invokestatic 83, 3), (.invokestatic 45, 1), (.invokevirtual 60, 1), (.invokevirtual 97, 3), (.invokevirtual 101, 4)]
abbrev rm_X3_place : Room := { frames := 8, cells := 1, slots := 6, locals := 141 }
def b_X3_place_0 : List wAn := [(.iload_n 1, 1, 0, 0, 0), (.invokestatic 94, 3, 0, 1, 1), (.iload_n 2, 1, 0, 0, 0), (.invokestatic 41, 3, 1, 1, 1), (.iload_n 3, 1, 0, 0, 0), (.iconst 0, 1, 0, 0, 0), (.sipush 1439, 3, 0, 0, 0), (.invokestatic 83, 3, 2, 1, 3), (.invokestatic 45, 3, 3, 1, 1), (.iload 4, 2, 0, 0, 0), (.iconst 0, 1, 0, 0, 0), (.sipush 999, 3, 0, 0, 0), (.invokestatic 83, 3, 2, 1, 3), (.invokestatic 45, 3, 3, 1, 1), (.aload_n 0, 1, 0, 0, 0), (.invokevirtual 60, 3, 4, 0, 1), (.aload_n 0, 1, 0, 0, 0), (.getfield 12, 3, 0, 3, 0), (.iload_n 1, 1, 0, 0, 0), (.iconst 2, 1, 0, 0, 0), (.invokevirtual 97, 3, 5, 1102, 3), (.istore 5, 2, 0, 0, 0), (.aload_n 0, 1, 0, 0, 0), (.getfield 12, 3, 0, 3, 0), (.iload_n 1, 1, 0, 0, 0), (.iconst 0, 1, 0, 0, 0), (.iload_n 2, 1, 0, 0, 0), (.invokevirtual 101, 3, 6, 1102, 4), (.aload_n 0, 1, 0, 0, 0), (.getfield 12, 3, 0, 3, 0), (.iload_n 1, 1, 0, 0, 0), (.iconst 1, 1, 0, 0, 0), (.iload_n 3, 1, 0, 0, 0), (.invokevirtual 101, 3, 6, 1102, 4), (.aload_n 0, 1, 0, 0, 0), (.getfield 12, 3, 0, 3, 0), (.iload_n 1, 1, 0, 0, 0), (.iconst 2, 1, 0, 0, 0), (.iload 4, 2, 0, 0, 0), (.invokevirtual 101, 3, 6, 1102, 4), (.iload 5, 2, 0, 0, 0), (.ireturn, 1, 0, 0, 0)]
def q_X3_place : List (Nat × List wAn) := [(0, b_X3_place_0)]
abbrev ck_X3_place : List wAn → Nat → Bool := w_ckB o_X3_place RX3 vwCl 6 cX3_place ct_X3_place
theorem cq_X3_place : q_X3_place.all (fun q => ck_X3_place q.2 q.1) = true := by decide +kernel
def o_X3_rest : List Cond := [.fieldLink RX3 12 RX3 "sea" "LTideFares$Sea;", .methodLink RX3 94 yX3_checkTraveller, .static yX3_checkTraveller, .initialized RX3, .code yX3_checkTraveller cX3_checkTraveller 1 none, .methodLink RX3 83 yX3_isWithin, .static yX3_isWithin, .code yX3_isWithin cX3_isWithin 3 (some .boolean), .methodLink RX3 45 yX3_checkArgument, .static yX3_checkArgument, .code yX3_checkArgument cX3_checkArgument 1 none, .methodLink RX3 97 yX1_travellerNumber, .instanceMethod yX1_travellerNumber, .selects RX1 yX1_travellerNumber yX1_travellerNumber, .initialized RX1, .code yX1_travellerNumber cX1_travellerNumber 3 (some .int), .methodLink RX3 57 yX3_checkState, .static yX3_checkState, .code yX3_checkState cX3_checkState 1 none, .methodLink RX3 60 yX3_save, .instanceMethod yX3_save, .selects RX3 yX3_save yX3_save, .code yX3_save cX3_save 1 none, .methodLink RX3 101 yX1_changeTraveller, .instanceMethod yX1_changeTraveller, .selects RX1 yX1_changeTraveller yX1_changeTraveller, .code yX1_changeTraveller cX1_changeTraveller 4 none] ++ wsX30
theorem oi_X3_rest : ∀ w ∈ o_X3_rest, w ∈ wGT := wGT_of _ [144, 594, 595, 53, 596, 409, 200, 201, 478, 479, 480, 308, 279, 280, 54, 281, 502, 503, 504, 521, 523, 25, 524, 597, 598, 599, 600, 150, 152, 154, 156, 158, 160] (by decide +kernel) (by decide +kernel)
def ct_X3_rest : List (Instr × Nat) := [(.invokestatic 94, 1), (.invokestatic 83, 3), (.invokestatic 45, 1), (.invokevirtual 97, 3), (.invokestatic 57, 1), (.invokevirtual 60, 1), (.invokevirtual 101, 4)]
abbrev rm_X3_rest : Room := { frames := 8, cells := 1, slots := 6, locals := 141 }
def b_X3_rest_0 : List wAn := [(.iload_n 1, 1, 0, 0, 0), (.invokestatic 94, 3, 0, 1, 1), (.iload_n 2, 1, 0, 0, 0), (.iconst 1, 1, 0, 0, 0), (.sipush 720, 3, 0, 0, 0), (.invokestatic 83, 3, 1, 1, 3), (.invokestatic 45, 3, 2, 1, 1), (.aload_n 0, 1, 0, 0, 0), (.getfield 12, 3, 0, 3, 0), (.iload_n 1, 1, 0, 0, 0), (.iconst 1, 1, 0, 0, 0), (.invokevirtual 97, 3, 3, 1102, 3), (.iload_n 2, 1, 0, 0, 0), (.iadd, 1, 0, 0, 0), (.istore_n 3, 1, 0, 0, 0), (.iload_n 3, 1, 0, 0, 0), (.sipush 1439, 3, 0, 0, 0), (.if_icmp .gt 7, 3, 38, 0, 0), (.iconst 1, 1, 0, 0, 0), (.goto 4, 3, 39, 0, 0)]
def b_X3_rest_38 : List wAn := [(.iconst 0, 1, 0, 0, 0)]
def b_X3_rest_39 : List wAn := [(.invokestatic 57, 3, 4, 1, 1), (.aload_n 0, 1, 0, 0, 0), (.invokevirtual 60, 3, 5, 0, 1), (.aload_n 0, 1, 0, 0, 0), (.getfield 12, 3, 0, 3, 0), (.iload_n 1, 1, 0, 0, 0), (.iconst 1, 1, 0, 0, 0), (.iload_n 3, 1, 0, 0, 0), (.invokevirtual 101, 3, 6, 1102, 4), (.iload_n 3, 1, 0, 0, 0), (.ireturn, 1, 0, 0, 0)]
def q_X3_rest : List (Nat × List wAn) := [(0, b_X3_rest_0), (38, b_X3_rest_38), (39, b_X3_rest_39)]
abbrev ck_X3_rest : List wAn → Nat → Bool := w_ckB o_X3_rest RX3 vwCl 4 cX3_rest ct_X3_rest
theorem cq_X3_rest : q_X3_rest.all (fun q => ck_X3_rest q.2 q.1) = true := by decide +kernel
def o_X3_take : List Cond := [.fieldLink RX3 12 RX3 "sea" "LTideFares$Sea;", .methodLink RX3 94 yX3_checkTraveller, .static yX3_checkTraveller, .initialized RX3, .code yX3_checkTraveller cX3_checkTraveller 1 none, .methodLink RX3 67 yX3_checkFerry, .instanceMethod yX3_checkFerry, .selects RX3 yX3_checkFerry yX3_checkFerry, .code yX3_checkFerry cX3_checkFerry 2 none, .methodLink RX3 105 yX3_whyNot, .instanceMethod yX3_whyNot, .selects RX3 yX3_whyNot yX3_whyNot, .code yX3_whyNot cX3_whyNot 4 (some .int), .methodLink RX3 57 yX3_checkState, .static yX3_checkState, .code yX3_checkState cX3_checkState 1 none, .methodLink RX3 60 yX3_save, .instanceMethod yX3_save, .selects RX3 yX3_save yX3_save, .code yX3_save cX3_save 1 none, .methodLink RX3 108 yX1_carry, .instanceMethod yX1_carry, .selects RX1 yX1_carry yX1_carry, .initialized RX1, .code yX1_carry cX1_carry 5 none, .methodLink RX3 97 yX1_travellerNumber, .instanceMethod yX1_travellerNumber, .selects RX1 yX1_travellerNumber yX1_travellerNumber, .code yX1_travellerNumber cX1_travellerNumber 3 (some .int)] ++ wsX30
theorem oi_X3_take : ∀ w ∈ o_X3_take, w ∈ wGT := wGT_of _ [144, 594, 595, 53, 596, 547, 549, 26, 550, 615, 617, 28, 618, 502, 503, 504, 521, 523, 25, 524, 619, 620, 621, 54, 622, 308, 279, 280, 281, 150, 152, 154, 156, 158, 160] (by decide +kernel) (by decide +kernel)
def ct_X3_take : List (Instr × Nat) := [(.invokestatic 94, 1), (.invokevirtual 67, 2), (.invokevirtual 105, 3), (.invokestatic 57, 1), (.invokevirtual 60, 1), (.invokevirtual 108, 3), (.invokevirtual 97, 3)]
abbrev rm_X3_take : Room := { frames := 8, cells := 1, slots := 6, locals := 142 }
def b_X3_take_0 : List wAn := [(.iload_n 1, 1, 0, 0, 0), (.invokestatic 94, 3, 0, 1, 1), (.aload_n 0, 1, 0, 0, 0), (.iload_n 2, 1, 0, 0, 0), (.invokevirtual 67, 3, 1, 0, 2), (.aload_n 0, 1, 0, 0, 0), (.iload_n 1, 1, 0, 0, 0), (.iload_n 2, 1, 0, 0, 0), (.invokevirtual 105, 3, 2, 0, 3), (.ifCond .ne 7, 3, 22, 0, 0), (.iconst 1, 1, 0, 0, 0), (.goto 4, 3, 23, 0, 0)]
def b_X3_take_22 : List wAn := [(.iconst 0, 1, 0, 0, 0)]
def b_X3_take_23 : List wAn := [(.invokestatic 57, 3, 3, 1, 1), (.aload_n 0, 1, 0, 0, 0), (.invokevirtual 60, 3, 4, 0, 1), (.aload_n 0, 1, 0, 0, 0), (.getfield 12, 3, 0, 3, 0), (.iload_n 1, 1, 0, 0, 0), (.iload_n 2, 1, 0, 0, 0), (.invokevirtual 108, 3, 5, 1102, 3), (.aload_n 0, 1, 0, 0, 0), (.getfield 12, 3, 0, 3, 0), (.iload_n 1, 1, 0, 0, 0), (.iconst 1, 1, 0, 0, 0), (.invokevirtual 97, 3, 6, 1102, 3), (.ireturn, 1, 0, 0, 0)]
def q_X3_take : List (Nat × List wAn) := [(0, b_X3_take_0), (22, b_X3_take_22), (23, b_X3_take_23)]
abbrev ck_X3_take : List wAn → Nat → Bool := w_ckB o_X3_take RX3 vwCl 3 cX3_take ct_X3_take
theorem cq_X3_take : q_X3_take.all (fun q => ck_X3_take q.2 q.1) = true := by decide +kernel
def o_X3_append : List Cond := [.fieldLink RX3 26 RX3 "text" "LTideFares$FerryText;", .methodLink RX3 83 yX3_isWithin, .static yX3_isWithin, .initialized RX3, .code yX3_isWithin cX3_isWithin 3 (some .boolean), .methodLink RX3 45 yX3_checkArgument, .static yX3_checkArgument, .code yX3_checkArgument cX3_checkArgument 1 none, .methodLink RX3 111 yX0_size, .instanceMethod yX0_size, .selects RX0 yX0_size yX0_size, .initialized RX0, .code yX0_size cX0_size 1 (some .int), .methodLink RX3 57 yX3_checkState, .static yX3_checkState, .code yX3_checkState cX3_checkState 1 none, .methodLink RX3 114 yX0_add, .instanceMethod yX0_add, .selects RX0 yX0_add yX0_add, .code yX0_add cX0_add 2 none] ++ wsX30
theorem oi_X3_append : ∀ w ∈ o_X3_append, w ∈ wGT := wGT_of _ [146, 409, 200, 53, 201, 478, 479, 480, 167, 168, 169, 56, 170, 502, 503, 504, 633, 634, 635, 636, 150, 152, 154, 156, 158, 160] (by decide +kernel) (by decide +kernel)
def ct_X3_append : List (Instr × Nat) := [(.invokestatic 83, 3), (.invokestatic 45, 1), (.invokevirtual 111, 1), (.invokestatic 57, 1), (.invokevirtual 114, 2)]
abbrev rm_X3_append : Room := { frames := 7, cells := 1, slots := 6, locals := 120 }
def b_X3_append_0 : List wAn := [(.iload_n 1, 1, 0, 0, 0), (.bipush 33, 2, 0, 0, 0), (.bipush 126, 2, 0, 0, 0), (.invokestatic 83, 3, 0, 1, 3), (.invokestatic 45, 3, 1, 1, 1), (.aload_n 0, 1, 0, 0, 0), (.getfield 26, 3, 0, 3, 2), (.invokevirtual 111, 3, 2, 103, 1), (.bipush 60, 2, 0, 0, 0), (.if_icmp .ge 7, 3, 27, 0, 0), (.iconst 1, 1, 0, 0, 0), (.goto 4, 3, 28, 0, 0)]
def b_X3_append_27 : List wAn := [(.iconst 0, 1, 0, 0, 0)]
def b_X3_append_28 : List wAn := [(.invokestatic 57, 3, 3, 1, 1), (.aload_n 0, 1, 0, 0, 0), (.getfield 26, 3, 0, 3, 2), (.iload_n 1, 1, 0, 0, 0), (.invokevirtual 114, 3, 4, 103, 2), (.aload_n 0, 1, 0, 0, 0), (.getfield 26, 3, 0, 3, 2), (.invokevirtual 111, 3, 2, 103, 1), (.ireturn, 1, 0, 0, 0)]
def q_X3_append : List (Nat × List wAn) := [(0, b_X3_append_0), (27, b_X3_append_27), (28, b_X3_append_28)]
abbrev ck_X3_append : List wAn → Nat → Bool := w_ckB o_X3_append RX3 vwCl 2 cX3_append ct_X3_append
theorem cq_X3_append : q_X3_append.all (fun q => ck_X3_append q.2 q.1) = true := by decide +kernel
def o_X3_clearBuffer : List Cond := [.fieldLink RX3 26 RX3 "text" "LTideFares$FerryText;", .methodLink RX3 111 yX0_size, .instanceMethod yX0_size, .selects RX0 yX0_size yX0_size, .initialized RX0, .code yX0_size cX0_size 1 (some .int), .methodLink RX3 117 yX0_clear, .instanceMethod yX0_clear, .selects RX0 yX0_clear yX0_clear, .code yX0_clear cX0_clear 1 none] ++ wsX30
theorem oi_X3_clearBuffer : ∀ w ∈ o_X3_clearBuffer, w ∈ wGT := wGT_of _ [146, 167, 168, 169, 56, 170, 171, 172, 173, 174, 150, 152, 154, 156, 158, 160] (by decide +kernel) (by decide +kernel)
def ct_X3_clearBuffer : List (Instr × Nat) := [(.invokevirtual 111, 1), (.invokevirtual 117, 1)]
abbrev rm_X3_clearBuffer : Room := { frames := 1, cells := 0, slots := 0, locals := 20 }
def b_X3_clearBuffer_0 : List wAn := [(.aload_n 0, 1, 0, 0, 0), (.getfield 26, 3, 0, 3, 2), (.invokevirtual 111, 3, 0, 103, 1), (.istore_n 1, 1, 0, 0, 0), (.aload_n 0, 1, 0, 0, 0), (.getfield 26, 3, 0, 3, 2), (.invokevirtual 117, 3, 1, 103, 1), (.iload_n 1, 1, 0, 0, 0), (.ireturn, 1, 0, 0, 0)]
def q_X3_clearBuffer : List (Nat × List wAn) := [(0, b_X3_clearBuffer_0)]
abbrev ck_X3_clearBuffer : List wAn → Nat → Bool := w_ckB o_X3_clearBuffer RX3 vwCl 2 cX3_clearBuffer ct_X3_clearBuffer
theorem cq_X3_clearBuffer : q_X3_clearBuffer.all (fun q => ck_X3_clearBuffer q.2 q.1) = true := by decide +kernel
def o_X3_firstError : List Cond := [.fieldLink RX3 26 RX3 "text" "LTideFares$FerryText;", .methodLink RX3 120 yX0_read, .instanceMethod yX0_read, .selects RX0 yX0_read yX0_read, .initialized RX0, .code yX0_read cX0_read 2 (some .int)] ++ wsX30
theorem oi_X3_firstError : ∀ w ∈ o_X3_firstError, w ∈ wGT := wGT_of _ [146, 179, 180, 181, 56, 182, 150, 152, 154, 156, 158, 160] (by decide +kernel) (by decide +kernel)
def ct_X3_firstError : List (Instr × Nat) := [(.invokevirtual 120, 1)]
abbrev rm_X3_firstError : Room := { frames := 5, cells := 0, slots := 0, locals := 105 }
def b_X3_firstError_0 : List wAn := [(.aload_n 0, 1, 0, 0, 0), (.getfield 26, 3, 0, 3, 2), (.invokevirtual 120, 3, 0, 103, 1), (.ireturn, 1, 0, 0, 0)]
def q_X3_firstError : List (Nat × List wAn) := [(0, b_X3_firstError_0)]
abbrev ck_X3_firstError : List wAn → Nat → Bool := w_ckB o_X3_firstError RX3 vwCl 1 cX3_firstError ct_X3_firstError
theorem cq_X3_firstError : q_X3_firstError.all (fun q => ck_X3_firstError q.2 q.1) = true := by decide +kernel
def o_X3_ferries : List Cond := [.fieldLink RX3 26 RX3 "text" "LTideFares$FerryText;", .fieldLink RX3 12 RX3 "sea" "LTideFares$Sea;", .methodLink RX3 123 yX0_isComplete, .instanceMethod yX0_isComplete, .selects RX0 yX0_isComplete yX0_isComplete, .initialized RX0, .code yX0_isComplete cX0_isComplete 1 (some .boolean), .methodLink RX3 45 yX3_checkArgument, .static yX3_checkArgument, .initialized RX3, .code yX3_checkArgument cX3_checkArgument 1 none, .methodLink RX3 127 yX0_partCount, .instanceMethod yX0_partCount, .selects RX0 yX0_partCount yX0_partCount, .code yX0_partCount cX0_partCount 1 (some .int), .methodLink RX3 53 yX1_ferryCount, .instanceMethod yX1_ferryCount, .selects RX1 yX1_ferryCount yX1_ferryCount, .initialized RX1, .code yX1_ferryCount cX1_ferryCount 1 (some .int), .methodLink RX3 57 yX3_checkState, .static yX3_checkState, .code yX3_checkState cX3_checkState 1 none, .methodLink RX3 60 yX3_save, .instanceMethod yX3_save, .selects RX3 yX3_save yX3_save, .code yX3_save cX3_save 1 none, .methodLink RX3 130 yX0_number, .instanceMethod yX0_number, .selects RX0 yX0_number yX0_number, .code yX0_number cX0_number 3 (some .int), .methodLink RX3 63 yX1_tell, .instanceMethod yX1_tell, .selects RX1 yX1_tell yX1_tell, .code yX1_tell cX1_tell 9 none, .methodLink RX3 117 yX0_clear, .instanceMethod yX0_clear, .selects RX0 yX0_clear yX0_clear, .code yX0_clear cX0_clear 1 none] ++ wsX30
theorem oi_X3_ferries : ∀ w ∈ o_X3_ferries, w ∈ wGT := wGT_of _ [146, 144, 644, 645, 646, 56, 647, 478, 479, 53, 480, 649, 650, 651, 652, 273, 232, 233, 54, 234, 502, 503, 504, 521, 523, 25, 524, 653, 654, 655, 656, 532, 533, 534, 535, 171, 172, 173, 174, 150, 152, 154, 156, 158, 160] (by decide +kernel) (by decide +kernel)
def ct_X3_ferries : List (Instr × Nat) := [(.invokevirtual 123, 1), (.invokestatic 45, 1), (.invokevirtual 127, 1), (.invokevirtual 53, 1), (.invokestatic 57, 1), (.invokevirtual 60, 1), (.invokevirtual 130, 3), (.invokevirtual 63, 8), (.invokevirtual 117, 1)]
abbrev rm_X3_ferries : Room := { frames := 7, cells := 1, slots := 6, locals := 125 }
def b_X3_ferries_0 : List wAn := [(.aload_n 0, 1, 0, 0, 0), (.getfield 26, 3, 0, 3, 2), (.invokevirtual 123, 3, 0, 103, 1), (.invokestatic 45, 3, 1, 1, 1), (.aload_n 0, 1, 0, 0, 0), (.getfield 26, 3, 0, 3, 2), (.invokevirtual 127, 3, 2, 103, 1), (.istore_n 1, 1, 0, 0, 0), (.aload_n 0, 1, 0, 0, 0), (.getfield 12, 3, 0, 3, 0), (.invokevirtual 53, 3, 3, 1102, 1), (.iload_n 1, 1, 0, 0, 0), (.iadd, 1, 0, 0, 0), (.bipush 14, 2, 0, 0, 0), (.if_icmp .gt 7, 3, 36, 0, 0), (.iconst 1, 1, 0, 0, 0), (.goto 4, 3, 37, 0, 0)]
def b_X3_ferries_36 : List wAn := [(.iconst 0, 1, 0, 0, 0)]
def b_X3_ferries_37 : List wAn := [(.invokestatic 57, 3, 4, 1, 1), (.aload_n 0, 1, 0, 0, 0), (.invokevirtual 60, 3, 5, 0, 1), (.iconst 0, 1, 0, 0, 0), (.istore_n 2, 1, 0, 0, 0)]
def b_X3_ferries_46 : List wAn := [(.iload_n 2, 1, 0, 0, 0), (.iload_n 1, 1, 0, 0, 0), (.if_icmp .ge 80, 3, 128, 0, 0), (.aload_n 0, 1, 0, 0, 0), (.getfield 12, 3, 0, 3, 0), (.aload_n 0, 1, 0, 0, 0), (.getfield 26, 3, 0, 3, 2), (.iload_n 2, 1, 0, 0, 0), (.iconst 0, 1, 0, 0, 0), (.invokevirtual 130, 3, 6, 103, 3), (.aload_n 0, 1, 0, 0, 0), (.getfield 26, 3, 0, 3, 2), (.iload_n 2, 1, 0, 0, 0), (.iconst 1, 1, 0, 0, 0), (.invokevirtual 130, 3, 6, 103, 3), (.aload_n 0, 1, 0, 0, 0), (.getfield 26, 3, 0, 3, 2), (.iload_n 2, 1, 0, 0, 0), (.iconst 2, 1, 0, 0, 0), (.invokevirtual 130, 3, 6, 103, 3), (.aload_n 0, 1, 0, 0, 0), (.getfield 26, 3, 0, 3, 2), (.iload_n 2, 1, 0, 0, 0), (.iconst 3, 1, 0, 0, 0), (.invokevirtual 130, 3, 6, 103, 3), (.aload_n 0, 1, 0, 0, 0), (.getfield 26, 3, 0, 3, 2), (.iload_n 2, 1, 0, 0, 0), (.iconst 4, 1, 0, 0, 0), (.invokevirtual 130, 3, 6, 103, 3), (.aload_n 0, 1, 0, 0, 0), (.getfield 26, 3, 0, 3, 2), (.iload_n 2, 1, 0, 0, 0), (.iconst 5, 1, 0, 0, 0), (.invokevirtual 130, 3, 6, 103, 3), (.aload_n 0, 1, 0, 0, 0), (.getfield 26, 3, 0, 3, 2), (.iload_n 2, 1, 0, 0, 0), (.bipush 6, 2, 0, 0, 0), (.invokevirtual 130, 3, 6, 103, 3), (.invokevirtual 63, 3, 7, 1102, 8), (.iinc 2 1, 3, 0, 0, 0), (.goto (-79), 3, 46, 0, 0)]
def b_X3_ferries_128 : List wAn := [(.aload_n 0, 1, 0, 0, 0), (.getfield 26, 3, 0, 3, 2), (.invokevirtual 117, 3, 8, 103, 1), (.aload_n 0, 1, 0, 0, 0), (.getfield 12, 3, 0, 3, 0), (.invokevirtual 53, 3, 3, 1102, 1), (.ireturn, 1, 0, 0, 0)]
def q_X3_ferries : List (Nat × List wAn) := [(0, b_X3_ferries_0), (36, b_X3_ferries_36), (37, b_X3_ferries_37), (46, b_X3_ferries_46), (128, b_X3_ferries_128)]
abbrev ck_X3_ferries : List wAn → Nat → Bool := w_ckB o_X3_ferries RX3 vwCl 3 cX3_ferries ct_X3_ferries
theorem cq_X3_ferries : q_X3_ferries.all (fun q => ck_X3_ferries q.2 q.1) = true := by decide +kernel
def o_X3_undo : List Cond := [.fieldLink RX3 34 RX3 "savedCount" "I", .fieldLink RX3 12 RX3 "sea" "LTideFares$Sea;", .fieldLink RX3 30 RX3 "saved" "[I", .fieldLink RX3 38 RX3 "oldestSaved" "I", .methodLink RX3 57 yX3_checkState, .static yX3_checkState, .initialized RX3, .code yX3_checkState cX3_checkState 1 none, .methodLink RX3 133 yX1_restore, .instanceMethod yX1_restore, .selects RX1 yX1_restore yX1_restore, .initialized RX1, .code yX1_restore cX1_restore 3 none] ++ wsX30
theorem oi_X3_undo : ∀ w ∈ o_X3_undo, w ∈ wGT := wGT_of _ [148, 144, 147, 149, 502, 503, 53, 504, 664, 665, 666, 54, 667, 150, 152, 154, 156, 158, 160] (by decide +kernel) (by decide +kernel)
def ct_X3_undo : List (Instr × Nat) := [(.invokestatic 57, 1), (.invokevirtual 133, 3)]
abbrev rm_X3_undo : Room := { frames := 7, cells := 1, slots := 6, locals := 120 }
def b_X3_undo_0 : List wAn := [(.aload_n 0, 1, 0, 0, 0), (.getfield 34, 3, 0, 3, 4), (.ifCond .le 7, 3, 11, 0, 0), (.iconst 1, 1, 0, 0, 0), (.goto 4, 3, 12, 0, 0)]
def b_X3_undo_11 : List wAn := [(.iconst 0, 1, 0, 0, 0)]
def b_X3_undo_12 : List wAn := [(.invokestatic 57, 3, 0, 1, 1), (.aload_n 0, 1, 0, 0, 0), (.dup, 1, 0, 0, 0), (.getfield 34, 3, 0, 3, 4), (.iconst 1, 1, 0, 0, 0), (.isub, 1, 0, 0, 0), (.putfield 34, 3, 0, 3, 4), (.aload_n 0, 1, 0, 0, 0), (.getfield 12, 3, 0, 3, 0), (.aload_n 0, 1, 0, 0, 0), (.getfield 30, 3, 0, 3, 3), (.aload_n 0, 1, 0, 0, 0), (.getfield 38, 3, 0, 3, 5), (.aload_n 0, 1, 0, 0, 0), (.getfield 34, 3, 0, 3, 4), (.iadd, 1, 0, 0, 0), (.bipush 6, 2, 0, 0, 0), (.irem, 1, 0, 0, 0), (.sipush 149, 3, 0, 0, 0), (.imul, 1, 0, 0, 0), (.invokevirtual 133, 3, 1, 1103, 3), (.aload_n 0, 1, 0, 0, 0), (.getfield 34, 3, 0, 3, 4), (.ireturn, 1, 0, 0, 0)]
def q_X3_undo : List (Nat × List wAn) := [(0, b_X3_undo_0), (11, b_X3_undo_11), (12, b_X3_undo_12)]
abbrev ck_X3_undo : List wAn → Nat → Bool := w_ckB o_X3_undo RX3 vwCl 1 cX3_undo ct_X3_undo
theorem cq_X3_undo : q_X3_undo.all (fun q => ck_X3_undo q.2 q.1) = true := by decide +kernel
def o_X3_ferryOf : List Cond := [.fieldLink RX3 12 RX3 "sea" "LTideFares$Sea;", .methodLink RX3 67 yX3_checkFerry, .instanceMethod yX3_checkFerry, .selects RX3 yX3_checkFerry yX3_checkFerry, .initialized RX3, .code yX3_checkFerry cX3_checkFerry 2 none, .methodLink RX3 83 yX3_isWithin, .static yX3_isWithin, .code yX3_isWithin cX3_isWithin 3 (some .boolean), .methodLink RX3 45 yX3_checkArgument, .static yX3_checkArgument, .code yX3_checkArgument cX3_checkArgument 1 none, .methodLink RX3 137 yX1_ferryNumber, .instanceMethod yX1_ferryNumber, .selects RX1 yX1_ferryNumber yX1_ferryNumber, .initialized RX1, .code yX1_ferryNumber cX1_ferryNumber 3 (some .int)] ++ wsX30
theorem oi_X3_ferryOf : ∀ w ∈ o_X3_ferryOf, w ∈ wGT := wGT_of _ [144, 547, 549, 26, 53, 550, 409, 200, 201, 478, 479, 480, 294, 240, 241, 54, 242, 150, 152, 154, 156, 158, 160] (by decide +kernel) (by decide +kernel)
def ct_X3_ferryOf : List (Instr × Nat) := [(.invokevirtual 67, 2), (.invokestatic 83, 3), (.invokestatic 45, 1), (.invokevirtual 137, 3)]
abbrev rm_X3_ferryOf : Room := { frames := 8, cells := 1, slots := 6, locals := 142 }
def b_X3_ferryOf_0 : List wAn := [(.aload_n 0, 1, 0, 0, 0), (.iload_n 1, 1, 0, 0, 0), (.invokevirtual 67, 3, 0, 0, 2), (.iload_n 2, 1, 0, 0, 0), (.iconst 0, 1, 0, 0, 0), (.bipush 8, 2, 0, 0, 0), (.invokestatic 83, 3, 1, 1, 3), (.invokestatic 45, 3, 2, 1, 1), (.aload_n 0, 1, 0, 0, 0), (.getfield 12, 3, 0, 3, 0), (.iload_n 1, 1, 0, 0, 0), (.iload_n 2, 1, 0, 0, 0), (.invokevirtual 137, 3, 3, 1102, 3), (.ireturn, 1, 0, 0, 0)]
def q_X3_ferryOf : List (Nat × List wAn) := [(0, b_X3_ferryOf_0)]
abbrev ck_X3_ferryOf : List wAn → Nat → Bool := w_ckB o_X3_ferryOf RX3 vwCl 3 cX3_ferryOf ct_X3_ferryOf
theorem cq_X3_ferryOf : q_X3_ferryOf.all (fun q => ck_X3_ferryOf q.2 q.1) = true := by decide +kernel
def o_X3_traveller : List Cond := [.fieldLink RX3 12 RX3 "sea" "LTideFares$Sea;", .methodLink RX3 94 yX3_checkTraveller, .static yX3_checkTraveller, .initialized RX3, .code yX3_checkTraveller cX3_checkTraveller 1 none, .methodLink RX3 83 yX3_isWithin, .static yX3_isWithin, .code yX3_isWithin cX3_isWithin 3 (some .boolean), .methodLink RX3 45 yX3_checkArgument, .static yX3_checkArgument, .code yX3_checkArgument cX3_checkArgument 1 none, .methodLink RX3 97 yX1_travellerNumber, .instanceMethod yX1_travellerNumber, .selects RX1 yX1_travellerNumber yX1_travellerNumber, .initialized RX1, .code yX1_travellerNumber cX1_travellerNumber 3 (some .int)] ++ wsX30
theorem oi_X3_traveller : ∀ w ∈ o_X3_traveller, w ∈ wGT := wGT_of _ [144, 594, 595, 53, 596, 409, 200, 201, 478, 479, 480, 308, 279, 280, 54, 281, 150, 152, 154, 156, 158, 160] (by decide +kernel) (by decide +kernel)
def ct_X3_traveller : List (Instr × Nat) := [(.invokestatic 94, 1), (.invokestatic 83, 3), (.invokestatic 45, 1), (.invokevirtual 97, 3)]
abbrev rm_X3_traveller : Room := { frames := 8, cells := 1, slots := 6, locals := 141 }
def b_X3_traveller_0 : List wAn := [(.iload_n 1, 1, 0, 0, 0), (.invokestatic 94, 3, 0, 1, 1), (.iload_n 2, 1, 0, 0, 0), (.iconst 0, 1, 0, 0, 0), (.iconst 4, 1, 0, 0, 0), (.invokestatic 83, 3, 1, 1, 3), (.invokestatic 45, 3, 2, 1, 1), (.aload_n 0, 1, 0, 0, 0), (.getfield 12, 3, 0, 3, 0), (.iload_n 1, 1, 0, 0, 0), (.iload_n 2, 1, 0, 0, 0), (.invokevirtual 97, 3, 3, 1102, 3), (.ireturn, 1, 0, 0, 0)]
def q_X3_traveller : List (Nat × List wAn) := [(0, b_X3_traveller_0)]
abbrev ck_X3_traveller : List wAn → Nat → Bool := w_ckB o_X3_traveller RX3 vwCl 3 cX3_traveller ct_X3_traveller
theorem cq_X3_traveller : q_X3_traveller.all (fun q => ck_X3_traveller q.2 q.1) = true := by decide +kernel
def o_X3_leaves : List Cond := [.fieldLink RX3 12 RX3 "sea" "LTideFares$Sea;", .methodLink RX3 67 yX3_checkFerry, .instanceMethod yX3_checkFerry, .selects RX3 yX3_checkFerry yX3_checkFerry, .initialized RX3, .code yX3_checkFerry cX3_checkFerry 2 none, .methodLink RX3 83 yX3_isWithin, .static yX3_isWithin, .code yX3_isWithin cX3_isWithin 3 (some .boolean), .methodLink RX3 45 yX3_checkArgument, .static yX3_checkArgument, .code yX3_checkArgument cX3_checkArgument 1 none, .methodLink RX3 140 yX1_nextLeaving, .instanceMethod yX1_nextLeaving, .selects RX1 yX1_nextLeaving yX1_nextLeaving, .initialized RX1, .code yX1_nextLeaving cX1_nextLeaving 4 (some .int)] ++ wsX30
theorem oi_X3_leaves : ∀ w ∈ o_X3_leaves, w ∈ wGT := wGT_of _ [144, 547, 549, 26, 53, 550, 409, 200, 201, 478, 479, 480, 295, 244, 245, 54, 246, 150, 152, 154, 156, 158, 160] (by decide +kernel) (by decide +kernel)
def ct_X3_leaves : List (Instr × Nat) := [(.invokevirtual 67, 2), (.invokestatic 83, 3), (.invokestatic 45, 1), (.invokevirtual 140, 3)]
abbrev rm_X3_leaves : Room := { frames := 8, cells := 1, slots := 6, locals := 142 }
def b_X3_leaves_0 : List wAn := [(.aload_n 0, 1, 0, 0, 0), (.iload_n 1, 1, 0, 0, 0), (.invokevirtual 67, 3, 0, 0, 2), (.iload_n 2, 1, 0, 0, 0), (.iconst 0, 1, 0, 0, 0), (.sipush 1539, 3, 0, 0, 0), (.invokestatic 83, 3, 1, 1, 3), (.invokestatic 45, 3, 2, 1, 1), (.aload_n 0, 1, 0, 0, 0), (.getfield 12, 3, 0, 3, 0), (.iload_n 1, 1, 0, 0, 0), (.iload_n 2, 1, 0, 0, 0), (.invokevirtual 140, 3, 3, 1102, 3), (.ireturn, 1, 0, 0, 0)]
def q_X3_leaves : List (Nat × List wAn) := [(0, b_X3_leaves_0)]
abbrev ck_X3_leaves : List wAn → Nat → Bool := w_ckB o_X3_leaves RX3 vwCl 3 cX3_leaves ct_X3_leaves
theorem cq_X3_leaves : q_X3_leaves.all (fun q => ck_X3_leaves q.2 q.1) = true := by decide +kernel
def o_X3_costs : List Cond := [.fieldLink RX3 12 RX3 "sea" "LTideFares$Sea;", .methodLink RX3 67 yX3_checkFerry, .instanceMethod yX3_checkFerry, .selects RX3 yX3_checkFerry yX3_checkFerry, .initialized RX3, .code yX3_checkFerry cX3_checkFerry 2 none, .methodLink RX3 83 yX3_isWithin, .static yX3_isWithin, .code yX3_isWithin cX3_isWithin 3 (some .boolean), .methodLink RX3 45 yX3_checkArgument, .static yX3_checkArgument, .code yX3_checkArgument cX3_checkArgument 1 none, .methodLink RX3 143 yX1_price, .instanceMethod yX1_price, .selects RX1 yX1_price yX1_price, .initialized RX1, .code yX1_price cX1_price 4 (some .int)] ++ wsX30
theorem oi_X3_costs : ∀ w ∈ o_X3_costs, w ∈ wGT := wGT_of _ [144, 547, 549, 26, 53, 550, 409, 200, 201, 478, 479, 480, 296, 297, 298, 54, 299, 150, 152, 154, 156, 158, 160] (by decide +kernel) (by decide +kernel)
def ct_X3_costs : List (Instr × Nat) := [(.invokevirtual 67, 2), (.invokestatic 83, 3), (.invokestatic 45, 1), (.invokevirtual 143, 3)]
abbrev rm_X3_costs : Room := { frames := 8, cells := 1, slots := 6, locals := 142 }
def b_X3_costs_0 : List wAn := [(.aload_n 0, 1, 0, 0, 0), (.iload_n 1, 1, 0, 0, 0), (.invokevirtual 67, 3, 0, 0, 2), (.iload_n 2, 1, 0, 0, 0), (.iconst 0, 1, 0, 0, 0), (.sipush 1439, 3, 0, 0, 0), (.invokestatic 83, 3, 1, 1, 3), (.invokestatic 45, 3, 2, 1, 1), (.aload_n 0, 1, 0, 0, 0), (.getfield 12, 3, 0, 3, 0), (.iload_n 1, 1, 0, 0, 0), (.iload_n 2, 1, 0, 0, 0), (.invokevirtual 143, 3, 3, 1102, 3), (.ireturn, 1, 0, 0, 0)]
def q_X3_costs : List (Nat × List wAn) := [(0, b_X3_costs_0)]
abbrev ck_X3_costs : List wAn → Nat → Bool := w_ckB o_X3_costs RX3 vwCl 3 cX3_costs ct_X3_costs
theorem cq_X3_costs : q_X3_costs.all (fun q => ck_X3_costs q.2 q.1) = true := by decide +kernel
def o_X3_count : List Cond := [.methodLink RX3 83 yX3_isWithin, .static yX3_isWithin, .initialized RX3, .code yX3_isWithin cX3_isWithin 3 (some .boolean), .methodLink RX3 45 yX3_checkArgument, .static yX3_checkArgument, .code yX3_checkArgument cX3_checkArgument 1 none, .methodLink RX3 146 yX3_total, .instanceMethod yX3_total, .selects RX3 yX3_total yX3_total, .code yX3_total cX3_total 2 (some .int)]
theorem oi_X3_count : ∀ w ∈ o_X3_count, w ∈ wGT := wGT_of _ [409, 200, 53, 201, 478, 479, 480, 269, 271, 11, 272] (by decide +kernel) (by decide +kernel)
def ct_X3_count : List (Instr × Nat) := [(.invokestatic 83, 3), (.invokestatic 45, 1), (.invokevirtual 146, 2)]
abbrev rm_X3_count : Room := { frames := 7, cells := 1, slots := 6, locals := 120 }
def b_X3_count_0 : List wAn := [(.iload_n 1, 1, 0, 0, 0), (.iconst 0, 1, 0, 0, 0), (.iconst 4, 1, 0, 0, 0), (.invokestatic 83, 3, 0, 1, 3), (.invokestatic 45, 3, 1, 1, 1), (.aload_n 0, 1, 0, 0, 0), (.iload_n 1, 1, 0, 0, 0), (.invokevirtual 146, 3, 2, 0, 2), (.ireturn, 1, 0, 0, 0)]
def q_X3_count : List (Nat × List wAn) := [(0, b_X3_count_0)]
abbrev ck_X3_count : List wAn → Nat → Bool := w_ckB o_X3_count RX3 vwCl 2 cX3_count ct_X3_count
theorem cq_X3_count : q_X3_count.all (fun q => ck_X3_count q.2 q.1) = true := by decide +kernel
def o_X3_setting : List Cond := [.fieldLink RX3 12 RX3 "sea" "LTideFares$Sea;", .methodLink RX3 77 yX3_checkIndex, .static yX3_checkIndex, .initialized RX3, .code yX3_checkIndex cX3_checkIndex 2 none, .methodLink RX3 87 yX1_settingValue, .instanceMethod yX1_settingValue, .selects RX1 yX1_settingValue yX1_settingValue, .initialized RX1, .code yX1_settingValue cX1_settingValue 2 (some .int)] ++ wsX30
theorem oi_X3_setting : ∀ w ∈ o_X3_setting, w ∈ wGT := wGT_of _ [144, 406, 407, 53, 408, 286, 287, 288, 54, 289, 150, 152, 154, 156, 158, 160] (by decide +kernel) (by decide +kernel)
def ct_X3_setting : List (Instr × Nat) := [(.invokestatic 77, 2), (.invokevirtual 87, 2)]
abbrev rm_X3_setting : Room := { frames := 7, cells := 1, slots := 6, locals := 121 }
def b_X3_setting_0 : List wAn := [(.iload_n 1, 1, 0, 0, 0), (.iconst 2, 1, 0, 0, 0), (.invokestatic 77, 3, 0, 1, 2), (.aload_n 0, 1, 0, 0, 0), (.getfield 12, 3, 0, 3, 0), (.iload_n 1, 1, 0, 0, 0), (.invokevirtual 87, 3, 1, 1102, 2), (.ireturn, 1, 0, 0, 0)]
def q_X3_setting : List (Nat × List wAn) := [(0, b_X3_setting_0)]
abbrev ck_X3_setting : List wAn → Nat → Bool := w_ckB o_X3_setting RX3 vwCl 2 cX3_setting ct_X3_setting
theorem cq_X3_setting : q_X3_setting.all (fun q => ck_X3_setting q.2 q.1) = true := by decide +kernel
def o_X3_refusal : List Cond := [.methodLink RX3 94 yX3_checkTraveller, .static yX3_checkTraveller, .initialized RX3, .code yX3_checkTraveller cX3_checkTraveller 1 none, .methodLink RX3 67 yX3_checkFerry, .instanceMethod yX3_checkFerry, .selects RX3 yX3_checkFerry yX3_checkFerry, .code yX3_checkFerry cX3_checkFerry 2 none, .methodLink RX3 105 yX3_whyNot, .instanceMethod yX3_whyNot, .selects RX3 yX3_whyNot yX3_whyNot, .code yX3_whyNot cX3_whyNot 4 (some .int)]
theorem oi_X3_refusal : ∀ w ∈ o_X3_refusal, w ∈ wGT := wGT_of _ [594, 595, 53, 596, 547, 549, 26, 550, 615, 617, 28, 618] (by decide +kernel) (by decide +kernel)
def ct_X3_refusal : List (Instr × Nat) := [(.invokestatic 94, 1), (.invokevirtual 67, 2), (.invokevirtual 105, 3)]
abbrev rm_X3_refusal : Room := { frames := 8, cells := 1, slots := 6, locals := 142 }
def b_X3_refusal_0 : List wAn := [(.iload_n 1, 1, 0, 0, 0), (.invokestatic 94, 3, 0, 1, 1), (.aload_n 0, 1, 0, 0, 0), (.iload_n 2, 1, 0, 0, 0), (.invokevirtual 67, 3, 1, 0, 2), (.aload_n 0, 1, 0, 0, 0), (.iload_n 1, 1, 0, 0, 0), (.iload_n 2, 1, 0, 0, 0), (.invokevirtual 105, 3, 2, 0, 3), (.ireturn, 1, 0, 0, 0)]
def q_X3_refusal : List (Nat × List wAn) := [(0, b_X3_refusal_0)]
abbrev ck_X3_refusal : List wAn → Nat → Bool := w_ckB o_X3_refusal RX3 vwCl 3 cX3_refusal ct_X3_refusal
theorem cq_X3_refusal : q_X3_refusal.all (fun q => ck_X3_refusal q.2 q.1) = true := by decide +kernel
def o_X3_soonest : List Cond := [.fieldLink RX3 19 RX3 "ways" "LTideFares$Ways;", .fieldLink RX3 12 RX3 "sea" "LTideFares$Sea;", .methodLink RX3 41 yX3_checkIsland, .static yX3_checkIsland, .initialized RX3, .code yX3_checkIsland cX3_checkIsland 1 none, .methodLink RX3 83 yX3_isWithin, .static yX3_isWithin, .code yX3_isWithin cX3_isWithin 3 (some .boolean), .methodLink RX3 45 yX3_checkArgument, .static yX3_checkArgument, .code yX3_checkArgument cX3_checkArgument 1 none, .methodLink RX3 149 yX2_findArrivals, .instanceMethod yX2_findArrivals, .selects RX2 yX2_findArrivals yX2_findArrivals, .initialized RX2, .code yX2_findArrivals cX2_findArrivals 7 none, .methodLink RX3 153 yX2_arrivalAt, .instanceMethod yX2_arrivalAt, .selects RX2 yX2_arrivalAt yX2_arrivalAt, .code yX2_arrivalAt cX2_arrivalAt 2 (some .int)] ++ wsX30
theorem oi_X3_soonest : ∀ w ∈ o_X3_soonest, w ∈ wGT := wGT_of _ [145, 144, 403, 404, 53, 405, 409, 200, 201, 478, 479, 480, 224, 225, 226, 55, 227, 259, 260, 261, 262, 150, 152, 154, 156, 158, 160] (by decide +kernel) (by decide +kernel)
def ct_X3_soonest : List (Instr × Nat) := [(.invokestatic 41, 1), (.invokestatic 83, 3), (.invokestatic 45, 1), (.invokevirtual 149, 4), (.invokevirtual 153, 2)]
abbrev rm_X3_soonest : Room := { frames := 8, cells := 1, slots := 6, locals := 141 }
def b_X3_soonest_0 : List wAn := [(.iload_n 1, 1, 0, 0, 0), (.invokestatic 41, 3, 0, 1, 1), (.iload_n 2, 1, 0, 0, 0), (.invokestatic 41, 3, 0, 1, 1), (.iload_n 3, 1, 0, 0, 0), (.iconst 0, 1, 0, 0, 0), (.sipush 1439, 3, 0, 0, 0), (.invokestatic 83, 3, 1, 1, 3), (.invokestatic 45, 3, 2, 1, 1), (.aload_n 0, 1, 0, 0, 0), (.getfield 19, 3, 0, 3, 1), (.aload_n 0, 1, 0, 0, 0), (.getfield 12, 3, 0, 3, 0), (.iload_n 1, 1, 0, 0, 0), (.iload_n 3, 1, 0, 0, 0), (.invokevirtual 149, 3, 3, 409, 4), (.aload_n 0, 1, 0, 0, 0), (.getfield 19, 3, 0, 3, 1), (.iload_n 2, 1, 0, 0, 0), (.invokevirtual 153, 3, 4, 407, 2), (.ireturn, 1, 0, 0, 0)]
def q_X3_soonest : List (Nat × List wAn) := [(0, b_X3_soonest_0)]
abbrev ck_X3_soonest : List wAn → Nat → Bool := w_ckB o_X3_soonest RX3 vwCl 4 cX3_soonest ct_X3_soonest
theorem cq_X3_soonest : q_X3_soonest.all (fun q => ck_X3_soonest q.2 q.1) = true := by decide +kernel
def o_X3_cheapest : List Cond := [.fieldLink RX3 19 RX3 "ways" "LTideFares$Ways;", .fieldLink RX3 12 RX3 "sea" "LTideFares$Sea;", .methodLink RX3 41 yX3_checkIsland, .static yX3_checkIsland, .initialized RX3, .code yX3_checkIsland cX3_checkIsland 1 none, .methodLink RX3 83 yX3_isWithin, .static yX3_isWithin, .code yX3_isWithin cX3_isWithin 3 (some .boolean), .methodLink RX3 45 yX3_checkArgument, .static yX3_checkArgument, .code yX3_checkArgument cX3_checkArgument 1 none, .methodLink RX3 156 yX2_findFares, .instanceMethod yX2_findFares, .selects RX2 yX2_findFares yX2_findFares, .initialized RX2, .code yX2_findFares cX2_findFares 6 none, .methodLink RX3 160 yX2_fareTo, .instanceMethod yX2_fareTo, .selects RX2 yX2_fareTo yX2_fareTo, .code yX2_fareTo cX2_fareTo 2 (some .int)] ++ wsX30
theorem oi_X3_cheapest : ∀ w ∈ o_X3_cheapest, w ∈ wGT := wGT_of _ [145, 144, 403, 404, 53, 405, 409, 200, 201, 478, 479, 480, 313, 314, 315, 55, 316, 370, 371, 372, 373, 150, 152, 154, 156, 158, 160] (by decide +kernel) (by decide +kernel)
def ct_X3_cheapest : List (Instr × Nat) := [(.invokestatic 41, 1), (.invokestatic 83, 3), (.invokestatic 45, 1), (.invokevirtual 156, 5), (.invokevirtual 160, 2)]
abbrev rm_X3_cheapest : Room := { frames := 8, cells := 1, slots := 6, locals := 141 }
def b_X3_cheapest_0 : List wAn := [(.iload_n 1, 1, 0, 0, 0), (.invokestatic 41, 3, 0, 1, 1), (.iload_n 2, 1, 0, 0, 0), (.invokestatic 41, 3, 0, 1, 1), (.iload_n 3, 1, 0, 0, 0), (.iconst 0, 1, 0, 0, 0), (.sipush 1439, 3, 0, 0, 0), (.invokestatic 83, 3, 1, 1, 3), (.invokestatic 45, 3, 2, 1, 1), (.iload 4, 2, 0, 0, 0), (.iload_n 3, 1, 0, 0, 0), (.sipush 1539, 3, 0, 0, 0), (.invokestatic 83, 3, 1, 1, 3), (.invokestatic 45, 3, 2, 1, 1), (.aload_n 0, 1, 0, 0, 0), (.getfield 19, 3, 0, 3, 1), (.aload_n 0, 1, 0, 0, 0), (.getfield 12, 3, 0, 3, 0), (.iload_n 1, 1, 0, 0, 0), (.iload_n 3, 1, 0, 0, 0), (.iload 4, 2, 0, 0, 0), (.invokevirtual 156, 3, 3, 409, 5), (.aload_n 0, 1, 0, 0, 0), (.getfield 19, 3, 0, 3, 1), (.iload_n 2, 1, 0, 0, 0), (.invokevirtual 160, 3, 4, 407, 2), (.ireturn, 1, 0, 0, 0)]
def q_X3_cheapest : List (Nat × List wAn) := [(0, b_X3_cheapest_0)]
abbrev ck_X3_cheapest : List wAn → Nat → Bool := w_ckB o_X3_cheapest RX3 vwCl 5 cX3_cheapest ct_X3_cheapest
theorem cq_X3_cheapest : q_X3_cheapest.all (fun q => ck_X3_cheapest q.2 q.1) = true := by decide +kernel
def o_X3_reach : List Cond := [.methodLink RX3 94 yX3_checkTraveller, .static yX3_checkTraveller, .initialized RX3, .code yX3_checkTraveller cX3_checkTraveller 1 none, .methodLink RX3 163 yX3_islandsFor, .instanceMethod yX3_islandsFor, .selects RX3 yX3_islandsFor yX3_islandsFor, .code yX3_islandsFor cX3_islandsFor 2 (some .int)]
theorem oi_X3_reach : ∀ w ∈ o_X3_reach, w ∈ wGT := wGT_of _ [594, 595, 53, 596, 309, 311, 15, 312] (by decide +kernel) (by decide +kernel)
def ct_X3_reach : List (Instr × Nat) := [(.invokestatic 94, 1), (.invokevirtual 163, 2)]
abbrev rm_X3_reach : Room := { frames := 8, cells := 1, slots := 6, locals := 147 }
def b_X3_reach_0 : List wAn := [(.iload_n 1, 1, 0, 0, 0), (.invokestatic 94, 3, 0, 1, 1), (.aload_n 0, 1, 0, 0, 0), (.iload_n 1, 1, 0, 0, 0), (.invokevirtual 163, 3, 1, 0, 2), (.ireturn, 1, 0, 0, 0)]
def q_X3_reach : List (Nat × List wAn) := [(0, b_X3_reach_0)]
abbrev ck_X3_reach : List wAn → Nat → Bool := w_ckB o_X3_reach RX3 vwCl 2 cX3_reach ct_X3_reach
theorem cq_X3_reach : q_X3_reach.all (fun q => ck_X3_reach q.2 q.1) = true := by decide +kernel
def o_X3_lastStart : List Cond := [.fieldLink RX3 19 RX3 "ways" "LTideFares$Ways;", .fieldLink RX3 12 RX3 "sea" "LTideFares$Sea;", .methodLink RX3 41 yX3_checkIsland, .static yX3_checkIsland, .initialized RX3, .code yX3_checkIsland cX3_checkIsland 1 none, .methodLink RX3 45 yX3_checkArgument, .static yX3_checkArgument, .code yX3_checkArgument cX3_checkArgument 1 none, .methodLink RX3 83 yX3_isWithin, .static yX3_isWithin, .code yX3_isWithin cX3_isWithin 3 (some .boolean), .methodLink RX3 166 yX2_findStarts, .instanceMethod yX2_findStarts, .selects RX2 yX2_findStarts yX2_findStarts, .initialized RX2, .code yX2_findStarts cX2_findStarts 7 none, .methodLink RX3 169 yX2_startFrom, .instanceMethod yX2_startFrom, .selects RX2 yX2_startFrom yX2_startFrom, .code yX2_startFrom cX2_startFrom 2 (some .int)] ++ wsX30
theorem oi_X3_lastStart : ∀ w ∈ o_X3_lastStart, w ∈ wGT := wGT_of _ [145, 144, 403, 404, 53, 405, 478, 479, 480, 409, 200, 201, 353, 354, 355, 55, 356, 374, 375, 376, 377, 150, 152, 154, 156, 158, 160] (by decide +kernel) (by decide +kernel)
def ct_X3_lastStart : List (Instr × Nat) := [(.invokestatic 41, 1), (.invokestatic 45, 1), (.invokestatic 83, 3), (.invokevirtual 166, 4), (.invokevirtual 169, 2)]
abbrev rm_X3_lastStart : Room := { frames := 8, cells := 1, slots := 6, locals := 141 }
def b_X3_lastStart_0 : List wAn := [(.iload_n 1, 1, 0, 0, 0), (.invokestatic 41, 3, 0, 1, 1), (.iload_n 2, 1, 0, 0, 0), (.invokestatic 41, 3, 0, 1, 1), (.iload_n 1, 1, 0, 0, 0), (.iload_n 2, 1, 0, 0, 0), (.if_icmp .eq 7, 3, 17, 0, 0), (.iconst 1, 1, 0, 0, 0), (.goto 4, 3, 18, 0, 0)]
def b_X3_lastStart_17 : List wAn := [(.iconst 0, 1, 0, 0, 0)]
def b_X3_lastStart_18 : List wAn := [(.invokestatic 45, 3, 1, 1, 1), (.iload_n 3, 1, 0, 0, 0), (.iconst 0, 1, 0, 0, 0), (.sipush 1539, 3, 0, 0, 0), (.invokestatic 83, 3, 2, 1, 3), (.invokestatic 45, 3, 1, 1, 1), (.aload_n 0, 1, 0, 0, 0), (.getfield 19, 3, 0, 3, 1), (.aload_n 0, 1, 0, 0, 0), (.getfield 12, 3, 0, 3, 0), (.iload_n 2, 1, 0, 0, 0), (.iload_n 3, 1, 0, 0, 0), (.invokevirtual 166, 3, 3, 409, 4), (.aload_n 0, 1, 0, 0, 0), (.getfield 19, 3, 0, 3, 1), (.iload_n 1, 1, 0, 0, 0), (.invokevirtual 169, 3, 4, 407, 2), (.ireturn, 1, 0, 0, 0)]
def q_X3_lastStart : List (Nat × List wAn) := [(0, b_X3_lastStart_0), (17, b_X3_lastStart_17), (18, b_X3_lastStart_18)]
abbrev ck_X3_lastStart : List wAn → Nat → Bool := w_ckB o_X3_lastStart RX3 vwCl 4 cX3_lastStart ct_X3_lastStart
theorem cq_X3_lastStart : q_X3_lastStart.all (fun q => ck_X3_lastStart q.2 q.1) = true := by decide +kernel
def o_X3_joined : List Cond := [.constantDouble RX3 175 (UInt64.ofNat 4633078116657397760), .methodLink RX3 172 yX3_joinedPairs, .instanceMethod yX3_joinedPairs, .selects RX3 yX3_joinedPairs yX3_joinedPairs, .initialized RX3, .code yX3_joinedPairs cX3_joinedPairs 4 (some .int)]
theorem oi_X3_joined : ∀ w ∈ o_X3_joined, w ∈ wGT := wGT_of _ [263, 220, 222, 6, 53, 223] (by decide +kernel) (by decide +kernel)
def ct_X3_joined : List (Instr × Nat) := [(.invokevirtual 172, 1)]
abbrev rm_X3_joined : Room := { frames := 5, cells := 0, slots := 0, locals := 123 }
def b_X3_joined_0 : List wAn := [(.aload_n 0, 1, 0, 0, 0), (.invokevirtual 172, 3, 0, 0, 1), (.i2d, 1, 0, 0, 0), (.ldc2_w 175, 3, 4633078116657397760, 1, 0), (.ddiv, 1, 0, 0, 0), (.dreturn, 1, 0, 0, 0)]
def q_X3_joined : List (Nat × List wAn) := [(0, b_X3_joined_0)]
abbrev ck_X3_joined : List wAn → Nat → Bool := w_ckB o_X3_joined RX3 vwCl 1 cX3_joined ct_X3_joined
theorem cq_X3_joined : q_X3_joined.all (fun q => ck_X3_joined q.2 q.1) = true := by decide +kernel
def o_X3_digest : List Cond := [.constantLong RX3 177 (Int64.ofNat 3301), .fieldLink RX3 12 RX3 "sea" "LTideFares$Sea;", .constantDouble RX3 175 (UInt64.ofNat 4633078116657397760), .methodLink RX3 146 yX3_total, .instanceMethod yX3_total, .selects RX3 yX3_total yX3_total, .initialized RX3, .code yX3_total cX3_total 2 (some .int), .methodLink RX3 179 yX3_mix, .static yX3_mix, .code yX3_mix cX3_mix 4 (some .long), .methodLink RX3 87 yX1_settingValue, .instanceMethod yX1_settingValue, .selects RX1 yX1_settingValue yX1_settingValue, .initialized RX1, .code yX1_settingValue cX1_settingValue 2 (some .int), .methodLink RX3 53 yX1_ferryCount, .instanceMethod yX1_ferryCount, .selects RX1 yX1_ferryCount yX1_ferryCount, .code yX1_ferryCount cX1_ferryCount 1 (some .int), .methodLink RX3 183 yX3_mixFerry, .instanceMethod yX3_mixFerry, .selects RX3 yX3_mixFerry yX3_mixFerry, .code yX3_mixFerry cX3_mixFerry 7 (some .long), .methodLink RX3 187 yX3_mixTraveller, .instanceMethod yX3_mixTraveller, .selects RX3 yX3_mixTraveller yX3_mixTraveller, .code yX3_mixTraveller cX3_mixTraveller 7 (some .long), .methodLink RX3 163 yX3_islandsFor, .instanceMethod yX3_islandsFor, .selects RX3 yX3_islandsFor yX3_islandsFor, .code yX3_islandsFor cX3_islandsFor 2 (some .int), .methodLink RX3 190 yX3_mixWays, .instanceMethod yX3_mixWays, .selects RX3 yX3_mixWays yX3_mixWays, .code yX3_mixWays cX3_mixWays 6 (some .long), .methodLink RX3 172 yX3_joinedPairs, .instanceMethod yX3_joinedPairs, .selects RX3 yX3_joinedPairs yX3_joinedPairs, .code yX3_joinedPairs cX3_joinedPairs 4 (some .int), .methodLink RX3 194 yX3_bitsOfShare, .static yX3_bitsOfShare, .code yX3_bitsOfShare cX3_bitsOfShare 6 (some .long), .methodLink RX3 198 yX3_mixText, .instanceMethod yX3_mixText, .selects RX3 yX3_mixText yX3_mixText, .code yX3_mixText cX3_mixText 6 (some .long)] ++ wsX30
theorem oi_X3_digest : ∀ w ∈ o_X3_digest, w ∈ wGT := wGT_of _ [268, 144, 263, 269, 271, 11, 53, 272, 282, 283, 284, 286, 287, 288, 54, 289, 273, 232, 233, 234, 290, 292, 12, 293, 304, 306, 14, 307, 309, 311, 15, 312, 349, 351, 20, 352, 220, 222, 6, 223, 378, 379, 380, 385, 387, 23, 388, 150, 152, 154, 156, 158, 160] (by decide +kernel) (by decide +kernel)
def ct_X3_digest : List (Instr × Nat) := [(.invokevirtual 146, 2), (.invokestatic 179, 2), (.invokevirtual 87, 2), (.invokevirtual 53, 1), (.invokevirtual 183, 3), (.invokevirtual 187, 3), (.invokevirtual 163, 2), (.invokevirtual 190, 2), (.invokevirtual 172, 1), (.invokestatic 194, 1), (.invokevirtual 198, 2)]
abbrev rm_X3_digest : Room := { frames := 6, cells := 0, slots := 0, locals := 151 }
def b_X3_digest_0 : List wAn := [(.ldc2_w 177, 3, 3301, 0, 0), (.lstore_n 1, 1, 0, 0, 0), (.iconst 0, 1, 0, 0, 0), (.istore_n 3, 1, 0, 0, 0)]
def b_X3_digest_6 : List wAn := [(.iload_n 3, 1, 0, 0, 0), (.iconst 4, 1, 0, 0, 0), (.if_icmp .gt 20, 3, 28, 0, 0), (.lload_n 1, 1, 0, 0, 0), (.aload_n 0, 1, 0, 0, 0), (.iload_n 3, 1, 0, 0, 0), (.invokevirtual 146, 3, 0, 0, 2), (.i2l, 1, 0, 0, 0), (.invokestatic 179, 3, 1, 1, 2), (.lstore_n 1, 1, 0, 0, 0), (.iinc 3 1, 3, 0, 0, 0), (.goto (-19), 3, 6, 0, 0)]
def b_X3_digest_28 : List wAn := [(.iconst 0, 1, 0, 0, 0), (.istore_n 3, 1, 0, 0, 0)]
def b_X3_digest_30 : List wAn := [(.iload_n 3, 1, 0, 0, 0), (.iconst 2, 1, 0, 0, 0), (.if_icmp .ge 23, 3, 55, 0, 0), (.lload_n 1, 1, 0, 0, 0), (.aload_n 0, 1, 0, 0, 0), (.getfield 12, 3, 0, 3, 0), (.iload_n 3, 1, 0, 0, 0), (.invokevirtual 87, 3, 2, 1102, 2), (.i2l, 1, 0, 0, 0), (.invokestatic 179, 3, 1, 1, 2), (.lstore_n 1, 1, 0, 0, 0), (.iinc 3 1, 3, 0, 0, 0), (.goto (-22), 3, 30, 0, 0)]
def b_X3_digest_55 : List wAn := [(.iconst 0, 1, 0, 0, 0), (.istore_n 3, 1, 0, 0, 0)]
def b_X3_digest_57 : List wAn := [(.iload_n 3, 1, 0, 0, 0), (.aload_n 0, 1, 0, 0, 0), (.getfield 12, 3, 0, 3, 0), (.invokevirtual 53, 3, 3, 1102, 1), (.if_icmp .ge 16, 3, 81, 0, 0), (.aload_n 0, 1, 0, 0, 0), (.lload_n 1, 1, 0, 0, 0), (.iload_n 3, 1, 0, 0, 0), (.invokevirtual 183, 3, 4, 0, 3), (.lstore_n 1, 1, 0, 0, 0), (.iinc 3 1, 3, 0, 0, 0), (.goto (-21), 3, 57, 0, 0)]
def b_X3_digest_81 : List wAn := [(.iconst 0, 1, 0, 0, 0), (.istore_n 3, 1, 0, 0, 0)]
def b_X3_digest_83 : List wAn := [(.iload_n 3, 1, 0, 0, 0), (.iconst 4, 1, 0, 0, 0), (.if_icmp .ge 27, 3, 112, 0, 0), (.aload_n 0, 1, 0, 0, 0), (.lload_n 1, 1, 0, 0, 0), (.iload_n 3, 1, 0, 0, 0), (.invokevirtual 187, 3, 5, 0, 3), (.lstore_n 1, 1, 0, 0, 0), (.lload_n 1, 1, 0, 0, 0), (.aload_n 0, 1, 0, 0, 0), (.iload_n 3, 1, 0, 0, 0), (.invokevirtual 163, 3, 6, 0, 2), (.i2l, 1, 0, 0, 0), (.invokestatic 179, 3, 1, 1, 2), (.lstore_n 1, 1, 0, 0, 0), (.iinc 3 1, 3, 0, 0, 0), (.goto (-26), 3, 83, 0, 0)]
def b_X3_digest_112 : List wAn := [(.aload_n 0, 1, 0, 0, 0), (.lload_n 1, 1, 0, 0, 0), (.invokevirtual 190, 3, 7, 0, 2), (.lstore_n 1, 1, 0, 0, 0), (.lload_n 1, 1, 0, 0, 0), (.aload_n 0, 1, 0, 0, 0), (.invokevirtual 172, 3, 8, 0, 1), (.i2d, 1, 0, 0, 0), (.ldc2_w 175, 3, 4633078116657397760, 1, 0), (.ddiv, 1, 0, 0, 0), (.invokestatic 194, 3, 9, 1, 1), (.invokestatic 179, 3, 1, 1, 2), (.lstore_n 1, 1, 0, 0, 0), (.aload_n 0, 1, 0, 0, 0), (.lload_n 1, 1, 0, 0, 0), (.invokevirtual 198, 3, 10, 0, 2), (.lreturn, 1, 0, 0, 0)]
def q_X3_digest : List (Nat × List wAn) := [(0, b_X3_digest_0), (6, b_X3_digest_6), (28, b_X3_digest_28), (30, b_X3_digest_30), (55, b_X3_digest_55), (57, b_X3_digest_57), (81, b_X3_digest_81), (83, b_X3_digest_83), (112, b_X3_digest_112)]
abbrev ck_X3_digest : List wAn → Nat → Bool := w_ckB o_X3_digest RX3 vwCl 4 cX3_digest ct_X3_digest
theorem cq_X3_digest : q_X3_digest.all (fun q => ck_X3_digest q.2 q.1) = true := by decide +kernel
def o_X3_isWithin : List Cond := []
theorem oi_X3_isWithin : ∀ w ∈ o_X3_isWithin, w ∈ wGT := wGT_of _ [] (by decide +kernel) (by decide +kernel)
def ct_X3_isWithin : List (Instr × Nat) := []
abbrev rm_X3_isWithin : Room := { frames := 0, cells := 0, slots := 0, locals := 0 }
def b_X3_isWithin_0 : List wAn := [(.iload_n 0, 1, 0, 0, 0), (.iload_n 1, 1, 0, 0, 0), (.if_icmp .lt 12, 3, 14, 0, 0), (.iload_n 0, 1, 0, 0, 0), (.iload_n 2, 1, 0, 0, 0), (.if_icmp .gt 7, 3, 14, 0, 0), (.iconst 1, 1, 0, 0, 0), (.goto 4, 3, 15, 0, 0)]
def b_X3_isWithin_14 : List wAn := [(.iconst 0, 1, 0, 0, 0)]
def b_X3_isWithin_15 : List wAn := [(.ireturn, 1, 0, 0, 0)]
def q_X3_isWithin : List (Nat × List wAn) := [(0, b_X3_isWithin_0), (14, b_X3_isWithin_14), (15, b_X3_isWithin_15)]
abbrev ck_X3_isWithin : List wAn → Nat → Bool := w_ckB o_X3_isWithin RX3 vwCl 3 cX3_isWithin ct_X3_isWithin
theorem cq_X3_isWithin : q_X3_isWithin.all (fun q => ck_X3_isWithin q.2 q.1) = true := by decide +kernel
def o_X3_checkIndex : List Cond := [.methodLink RX3 83 yX3_isWithin, .static yX3_isWithin, .initialized RX3, .code yX3_isWithin cX3_isWithin 3 (some .boolean)]
theorem oi_X3_checkIndex : ∀ w ∈ o_X3_checkIndex, w ∈ wGT := wGT_of _ [409, 200, 53, 201] (by decide +kernel) (by decide +kernel)
def ct_X3_checkIndex : List (Instr × Nat) := [(.invokestatic 83, 3)]
abbrev rm_X3_checkIndex : Room := { frames := 6, cells := 1, slots := 6, locals := 100 }
def o_X3_checkArgument : List Cond := []
theorem oi_X3_checkArgument : ∀ w ∈ o_X3_checkArgument, w ∈ wGT := wGT_of _ [] (by decide +kernel) (by decide +kernel)
def ct_X3_checkArgument : List (Instr × Nat) := []
abbrev rm_X3_checkArgument : Room := { frames := 6, cells := 1, slots := 6, locals := 100 }
def o_X3_checkState : List Cond := []
theorem oi_X3_checkState : ∀ w ∈ o_X3_checkState, w ∈ wGT := wGT_of _ [] (by decide +kernel) (by decide +kernel)
def ct_X3_checkState : List (Instr × Nat) := []
abbrev rm_X3_checkState : Room := { frames := 6, cells := 1, slots := 6, locals := 100 }
def o_X3_checkIsland : List Cond := [.methodLink RX3 77 yX3_checkIndex, .static yX3_checkIndex, .initialized RX3, .code yX3_checkIndex cX3_checkIndex 2 none]
theorem oi_X3_checkIsland : ∀ w ∈ o_X3_checkIsland, w ∈ wGT := wGT_of _ [406, 407, 53, 408] (by decide +kernel) (by decide +kernel)
def ct_X3_checkIsland : List (Instr × Nat) := [(.invokestatic 77, 2)]
abbrev rm_X3_checkIsland : Room := { frames := 7, cells := 1, slots := 6, locals := 121 }
def b_X3_checkIsland_0 : List wAn := [(.iload_n 0, 1, 0, 0, 0), (.bipush 8, 2, 0, 0, 0), (.invokestatic 77, 3, 0, 1, 2), (.return_, 1, 0, 0, 0)]
def q_X3_checkIsland : List (Nat × List wAn) := [(0, b_X3_checkIsland_0)]
abbrev ck_X3_checkIsland : List wAn → Nat → Bool := w_ckB o_X3_checkIsland RX3 vwCl 1 cX3_checkIsland ct_X3_checkIsland
theorem cq_X3_checkIsland : q_X3_checkIsland.all (fun q => ck_X3_checkIsland q.2 q.1) = true := by decide +kernel
def o_X3_checkTraveller : List Cond := [.methodLink RX3 77 yX3_checkIndex, .static yX3_checkIndex, .initialized RX3, .code yX3_checkIndex cX3_checkIndex 2 none]
theorem oi_X3_checkTraveller : ∀ w ∈ o_X3_checkTraveller, w ∈ wGT := wGT_of _ [406, 407, 53, 408] (by decide +kernel) (by decide +kernel)
def ct_X3_checkTraveller : List (Instr × Nat) := [(.invokestatic 77, 2)]
abbrev rm_X3_checkTraveller : Room := { frames := 7, cells := 1, slots := 6, locals := 121 }
def b_X3_checkTraveller_0 : List wAn := [(.iload_n 0, 1, 0, 0, 0), (.iconst 4, 1, 0, 0, 0), (.invokestatic 77, 3, 0, 1, 2), (.return_, 1, 0, 0, 0)]
def q_X3_checkTraveller : List (Nat × List wAn) := [(0, b_X3_checkTraveller_0)]
abbrev ck_X3_checkTraveller : List wAn → Nat → Bool := w_ckB o_X3_checkTraveller RX3 vwCl 1 cX3_checkTraveller ct_X3_checkTraveller
theorem cq_X3_checkTraveller : q_X3_checkTraveller.all (fun q => ck_X3_checkTraveller q.2 q.1) = true := by decide +kernel
def o_X3_checkFerry : List Cond := [.fieldLink RX3 12 RX3 "sea" "LTideFares$Sea;", .methodLink RX3 53 yX1_ferryCount, .instanceMethod yX1_ferryCount, .selects RX1 yX1_ferryCount yX1_ferryCount, .initialized RX1, .code yX1_ferryCount cX1_ferryCount 1 (some .int), .methodLink RX3 77 yX3_checkIndex, .static yX3_checkIndex, .initialized RX3, .code yX3_checkIndex cX3_checkIndex 2 none] ++ wsX30
theorem oi_X3_checkFerry : ∀ w ∈ o_X3_checkFerry, w ∈ wGT := wGT_of _ [144, 273, 232, 233, 54, 234, 406, 407, 53, 408, 150, 152, 154, 156, 158, 160] (by decide +kernel) (by decide +kernel)
def ct_X3_checkFerry : List (Instr × Nat) := [(.invokevirtual 53, 1), (.invokestatic 77, 2)]
abbrev rm_X3_checkFerry : Room := { frames := 7, cells := 1, slots := 6, locals := 121 }
def b_X3_checkFerry_0 : List wAn := [(.iload_n 1, 1, 0, 0, 0), (.aload_n 0, 1, 0, 0, 0), (.getfield 12, 3, 0, 3, 0), (.invokevirtual 53, 3, 0, 1102, 1), (.invokestatic 77, 3, 1, 1, 2), (.return_, 1, 0, 0, 0)]
def q_X3_checkFerry : List (Nat × List wAn) := [(0, b_X3_checkFerry_0)]
abbrev ck_X3_checkFerry : List wAn → Nat → Bool := w_ckB o_X3_checkFerry RX3 vwCl 2 cX3_checkFerry ct_X3_checkFerry
theorem cq_X3_checkFerry : q_X3_checkFerry.all (fun q => ck_X3_checkFerry q.2 q.1) = true := by decide +kernel
def o_X3_checkFerryNumber : List Cond := [.fieldLink RX3 218 RX3 "LEAST" "[I", .fieldLink RX3 221 RX3 "MOST" "[I", .methodLink RX3 83 yX3_isWithin, .static yX3_isWithin, .initialized RX3, .code yX3_isWithin cX3_isWithin 3 (some .boolean), .methodLink RX3 45 yX3_checkArgument, .static yX3_checkArgument, .code yX3_checkArgument cX3_checkArgument 1 none]
theorem oi_X3_checkFerryNumber : ∀ w ∈ o_X3_checkFerryNumber, w ∈ wGT := wGT_of _ [500, 501, 409, 200, 53, 201, 478, 479, 480] (by decide +kernel) (by decide +kernel)
def ct_X3_checkFerryNumber : List (Instr × Nat) := [(.invokestatic 83, 3), (.invokestatic 45, 1)]
abbrev rm_X3_checkFerryNumber : Room := { frames := 7, cells := 1, slots := 6, locals := 120 }
def b_X3_checkFerryNumber_0 : List wAn := [(.iload_n 1, 1, 0, 0, 0), (.getstatic 218, 3, 0, 0, 0), (.iload_n 0, 1, 0, 0, 0), (.iaload, 1, 0, 1, 0), (.getstatic 221, 3, 1, 0, 0), (.iload_n 0, 1, 0, 0, 0), (.iaload, 1, 1, 1, 0), (.invokestatic 83, 3, 0, 1, 3), (.invokestatic 45, 3, 1, 1, 1), (.return_, 1, 0, 0, 0)]
def q_X3_checkFerryNumber : List (Nat × List wAn) := [(0, b_X3_checkFerryNumber_0)]
abbrev ck_X3_checkFerryNumber : List wAn → Nat → Bool := w_ckB o_X3_checkFerryNumber RX3 vwCl 2 cX3_checkFerryNumber ct_X3_checkFerryNumber
theorem cq_X3_checkFerryNumber : q_X3_checkFerryNumber.all (fun q => ck_X3_checkFerryNumber q.2 q.1) = true := by decide +kernel
def o_X3_save : List Cond := [.fieldLink RX3 34 RX3 "savedCount" "I", .fieldLink RX3 38 RX3 "oldestSaved" "I", .fieldLink RX3 12 RX3 "sea" "LTideFares$Sea;", .fieldLink RX3 30 RX3 "saved" "[I", .methodLink RX3 224 yX1_copyTo, .instanceMethod yX1_copyTo, .selects RX1 yX1_copyTo yX1_copyTo, .initialized RX1, .code yX1_copyTo cX1_copyTo 3 none] ++ wsX30
theorem oi_X3_save : ∀ w ∈ o_X3_save, w ∈ wGT := wGT_of _ [148, 149, 144, 147, 525, 526, 527, 54, 528, 150, 152, 154, 156, 158, 160] (by decide +kernel) (by decide +kernel)
def ct_X3_save : List (Instr × Nat) := [(.invokevirtual 224, 3)]
abbrev rm_X3_save : Room := { frames := 2, cells := 0, slots := 0, locals := 82 }
def b_X3_save_0 : List wAn := [(.aload_n 0, 1, 0, 0, 0), (.getfield 34, 3, 0, 3, 4), (.bipush 6, 2, 0, 0, 0), (.if_icmp .ne 26, 3, 32, 0, 0), (.aload_n 0, 1, 0, 0, 0), (.aload_n 0, 1, 0, 0, 0), (.getfield 38, 3, 0, 3, 5), (.iconst 1, 1, 0, 0, 0), (.iadd, 1, 0, 0, 0), (.bipush 6, 2, 0, 0, 0), (.irem, 1, 0, 0, 0), (.putfield 38, 3, 0, 3, 5), (.aload_n 0, 1, 0, 0, 0), (.dup, 1, 0, 0, 0), (.getfield 34, 3, 0, 3, 4), (.iconst 1, 1, 0, 0, 0), (.isub, 1, 0, 0, 0), (.putfield 34, 3, 0, 3, 4)]
def b_X3_save_32 : List wAn := [(.aload_n 0, 1, 0, 0, 0), (.getfield 12, 3, 0, 3, 0), (.aload_n 0, 1, 0, 0, 0), (.getfield 30, 3, 0, 3, 3), (.aload_n 0, 1, 0, 0, 0), (.getfield 38, 3, 0, 3, 5), (.aload_n 0, 1, 0, 0, 0), (.getfield 34, 3, 0, 3, 4), (.iadd, 1, 0, 0, 0), (.bipush 6, 2, 0, 0, 0), (.irem, 1, 0, 0, 0), (.sipush 149, 3, 0, 0, 0), (.imul, 1, 0, 0, 0), (.invokevirtual 224, 3, 0, 1103, 3), (.aload_n 0, 1, 0, 0, 0), (.dup, 1, 0, 0, 0), (.getfield 34, 3, 0, 3, 4), (.iconst 1, 1, 0, 0, 0), (.iadd, 1, 0, 0, 0), (.putfield 34, 3, 0, 3, 4), (.return_, 1, 0, 0, 0)]
def q_X3_save : List (Nat × List wAn) := [(0, b_X3_save_0), (32, b_X3_save_32)]
abbrev ck_X3_save : List wAn → Nat → Bool := w_ckB o_X3_save RX3 vwCl 1 cX3_save ct_X3_save
theorem cq_X3_save : q_X3_save.all (fun q => ck_X3_save q.2 q.1) = true := by decide +kernel
def o_X3_changeFerry : List Cond := [.fieldLink RX3 12 RX3 "sea" "LTideFares$Sea;", .methodLink RX3 60 yX3_save, .instanceMethod yX3_save, .selects RX3 yX3_save yX3_save, .initialized RX3, .code yX3_save cX3_save 1 none, .methodLink RX3 137 yX1_ferryNumber, .instanceMethod yX1_ferryNumber, .selects RX1 yX1_ferryNumber yX1_ferryNumber, .initialized RX1, .code yX1_ferryNumber cX1_ferryNumber 3 (some .int), .methodLink RX3 227 yX1_changeFerry, .instanceMethod yX1_changeFerry, .selects RX1 yX1_changeFerry yX1_changeFerry, .code yX1_changeFerry cX1_changeFerry 4 none] ++ wsX30
theorem oi_X3_changeFerry : ∀ w ∈ o_X3_changeFerry, w ∈ wGT := wGT_of _ [144, 521, 523, 25, 53, 524, 294, 240, 241, 54, 242, 566, 537, 538, 539, 150, 152, 154, 156, 158, 160] (by decide +kernel) (by decide +kernel)
def ct_X3_changeFerry : List (Instr × Nat) := [(.invokevirtual 60, 1), (.invokevirtual 137, 3), (.invokevirtual 227, 4)]
abbrev rm_X3_changeFerry : Room := { frames := 3, cells := 0, slots := 0, locals := 102 }
def b_X3_changeFerry_0 : List wAn := [(.aload_n 0, 1, 0, 0, 0), (.invokevirtual 60, 3, 0, 0, 1), (.aload_n 0, 1, 0, 0, 0), (.getfield 12, 3, 0, 3, 0), (.iload_n 1, 1, 0, 0, 0), (.iload_n 2, 1, 0, 0, 0), (.invokevirtual 137, 3, 1, 1102, 3), (.istore 4, 2, 0, 0, 0), (.aload_n 0, 1, 0, 0, 0), (.getfield 12, 3, 0, 3, 0), (.iload_n 1, 1, 0, 0, 0), (.iload_n 2, 1, 0, 0, 0), (.iload_n 3, 1, 0, 0, 0), (.invokevirtual 227, 3, 2, 1102, 4), (.iload 4, 2, 0, 0, 0), (.ireturn, 1, 0, 0, 0)]
def q_X3_changeFerry : List (Nat × List wAn) := [(0, b_X3_changeFerry_0)]
abbrev ck_X3_changeFerry : List wAn → Nat → Bool := w_ckB o_X3_changeFerry RX3 vwCl 5 cX3_changeFerry ct_X3_changeFerry
theorem cq_X3_changeFerry : q_X3_changeFerry.all (fun q => ck_X3_changeFerry q.2 q.1) = true := by decide +kernel
def o_X3_whyNot : List Cond := [.fieldLink RX3 12 RX3 "sea" "LTideFares$Sea;", .methodLink RX3 137 yX1_ferryNumber, .instanceMethod yX1_ferryNumber, .selects RX1 yX1_ferryNumber yX1_ferryNumber, .initialized RX1, .code yX1_ferryNumber cX1_ferryNumber 3 (some .int), .methodLink RX3 97 yX1_travellerNumber, .instanceMethod yX1_travellerNumber, .selects RX1 yX1_travellerNumber yX1_travellerNumber, .code yX1_travellerNumber cX1_travellerNumber 3 (some .int), .methodLink RX3 140 yX1_nextLeaving, .instanceMethod yX1_nextLeaving, .selects RX1 yX1_nextLeaving yX1_nextLeaving, .code yX1_nextLeaving cX1_nextLeaving 4 (some .int), .methodLink RX3 143 yX1_price, .instanceMethod yX1_price, .selects RX1 yX1_price yX1_price, .code yX1_price cX1_price 4 (some .int)] ++ wsX30
theorem oi_X3_whyNot : ∀ w ∈ o_X3_whyNot, w ∈ wGT := wGT_of _ [144, 294, 240, 241, 54, 242, 308, 279, 280, 281, 295, 244, 245, 246, 296, 297, 298, 299, 150, 152, 154, 156, 158, 160] (by decide +kernel) (by decide +kernel)
def ct_X3_whyNot : List (Instr × Nat) := [(.invokevirtual 137, 3), (.invokevirtual 97, 3), (.invokevirtual 140, 3), (.invokevirtual 143, 3)]
abbrev rm_X3_whyNot : Room := { frames := 2, cells := 0, slots := 0, locals := 48 }
def b_X3_whyNot_0 : List wAn := [(.aload_n 0, 1, 0, 0, 0), (.getfield 12, 3, 0, 3, 0), (.iload_n 2, 1, 0, 0, 0), (.iconst 0, 1, 0, 0, 0), (.invokevirtual 137, 3, 0, 1102, 3), (.aload_n 0, 1, 0, 0, 0), (.getfield 12, 3, 0, 3, 0), (.iload_n 1, 1, 0, 0, 0), (.iconst 0, 1, 0, 0, 0), (.invokevirtual 97, 3, 1, 1102, 3), (.if_icmp .eq 5, 3, 23, 0, 0), (.iconst 1, 1, 0, 0, 0), (.ireturn, 1, 0, 0, 0)]
def b_X3_whyNot_23 : List wAn := [(.aload_n 0, 1, 0, 0, 0), (.getfield 12, 3, 0, 3, 0), (.iload_n 2, 1, 0, 0, 0), (.aload_n 0, 1, 0, 0, 0), (.getfield 12, 3, 0, 3, 0), (.iload_n 1, 1, 0, 0, 0), (.iconst 1, 1, 0, 0, 0), (.invokevirtual 97, 3, 1, 1102, 3), (.invokevirtual 140, 3, 2, 1102, 3), (.istore_n 3, 1, 0, 0, 0), (.iload_n 3, 1, 0, 0, 0), (.iconst (-1), 1, 0, 0, 0), (.if_icmp .ne 5, 3, 48, 0, 0), (.iconst 2, 1, 0, 0, 0), (.ireturn, 1, 0, 0, 0)]
def b_X3_whyNot_48 : List wAn := [(.aload_n 0, 1, 0, 0, 0), (.getfield 12, 3, 0, 3, 0), (.iload_n 2, 1, 0, 0, 0), (.iload_n 3, 1, 0, 0, 0), (.invokevirtual 143, 3, 3, 1102, 3), (.aload_n 0, 1, 0, 0, 0), (.getfield 12, 3, 0, 3, 0), (.iload_n 1, 1, 0, 0, 0), (.iconst 2, 1, 0, 0, 0), (.invokevirtual 97, 3, 1, 1102, 3), (.if_icmp .le 7, 3, 73, 0, 0), (.iconst 3, 1, 0, 0, 0), (.goto 4, 3, 74, 0, 0)]
def b_X3_whyNot_73 : List wAn := [(.iconst 0, 1, 0, 0, 0)]
def b_X3_whyNot_74 : List wAn := [(.ireturn, 1, 0, 0, 0)]
def q_X3_whyNot : List (Nat × List wAn) := [(0, b_X3_whyNot_0), (23, b_X3_whyNot_23), (48, b_X3_whyNot_48), (73, b_X3_whyNot_73), (74, b_X3_whyNot_74)]
abbrev ck_X3_whyNot : List wAn → Nat → Bool := w_ckB o_X3_whyNot RX3 vwCl 4 cX3_whyNot ct_X3_whyNot
theorem cq_X3_whyNot : q_X3_whyNot.all (fun q => ck_X3_whyNot q.2 q.1) = true := by decide +kernel
def o_X3_total : List Cond := [.fieldLink RX3 12 RX3 "sea" "LTideFares$Sea;", .fieldLink RX3 34 RX3 "savedCount" "I", .methodLink RX3 53 yX1_ferryCount, .instanceMethod yX1_ferryCount, .selects RX1 yX1_ferryCount yX1_ferryCount, .initialized RX1, .code yX1_ferryCount cX1_ferryCount 1 (some .int), .methodLink RX3 229 yX1_sumOfTravellers, .instanceMethod yX1_sumOfTravellers, .selects RX1 yX1_sumOfTravellers yX1_sumOfTravellers, .code yX1_sumOfTravellers cX1_sumOfTravellers 4 (some .int)] ++ wsX30
theorem oi_X3_total : ∀ w ∈ o_X3_total, w ∈ wGT := wGT_of _ [144, 148, 273, 232, 233, 54, 234, 274, 275, 276, 277, 150, 152, 154, 156, 158, 160] (by decide +kernel) (by decide +kernel)
def ct_X3_total : List (Instr × Nat) := [(.invokevirtual 53, 1), (.invokevirtual 229, 2)]
abbrev rm_X3_total : Room := { frames := 2, cells := 0, slots := 0, locals := 45 }
def b_X3_total_0 : List wAn := [(.iload_n 1, 1, 0, 0, 0), (.ifCond .ne 11, 3, 12, 0, 0), (.aload_n 0, 1, 0, 0, 0), (.getfield 12, 3, 0, 3, 0), (.invokevirtual 53, 3, 0, 1102, 1), (.ireturn, 1, 0, 0, 0)]
def b_X3_total_12 : List wAn := [(.iload_n 1, 1, 0, 0, 0), (.iconst 1, 1, 0, 0, 0), (.if_icmp .ne 12, 3, 26, 0, 0), (.aload_n 0, 1, 0, 0, 0), (.getfield 12, 3, 0, 3, 0), (.iconst 3, 1, 0, 0, 0), (.invokevirtual 229, 3, 1, 1102, 2), (.ireturn, 1, 0, 0, 0)]
def b_X3_total_26 : List wAn := [(.iload_n 1, 1, 0, 0, 0), (.iconst 2, 1, 0, 0, 0), (.if_icmp .ne 12, 3, 40, 0, 0), (.aload_n 0, 1, 0, 0, 0), (.getfield 12, 3, 0, 3, 0), (.iconst 4, 1, 0, 0, 0), (.invokevirtual 229, 3, 1, 1102, 2), (.ireturn, 1, 0, 0, 0)]
def b_X3_total_40 : List wAn := [(.iload_n 1, 1, 0, 0, 0), (.iconst 3, 1, 0, 0, 0), (.if_icmp .ne 14, 3, 56, 0, 0), (.aload_n 0, 1, 0, 0, 0), (.getfield 12, 3, 0, 3, 0), (.iconst 2, 1, 0, 0, 0), (.invokevirtual 229, 3, 1, 1102, 2), (.goto 7, 3, 60, 0, 0)]
def b_X3_total_56 : List wAn := [(.aload_n 0, 1, 0, 0, 0), (.getfield 34, 3, 0, 3, 4)]
def b_X3_total_60 : List wAn := [(.ireturn, 1, 0, 0, 0)]
def q_X3_total : List (Nat × List wAn) := [(0, b_X3_total_0), (12, b_X3_total_12), (26, b_X3_total_26), (40, b_X3_total_40), (56, b_X3_total_56), (60, b_X3_total_60)]
abbrev ck_X3_total : List wAn → Nat → Bool := w_ckB o_X3_total RX3 vwCl 2 cX3_total ct_X3_total
theorem cq_X3_total : q_X3_total.all (fun q => ck_X3_total q.2 q.1) = true := by decide +kernel
def o_X3_islandsFor : List Cond := [.fieldLink RX3 19 RX3 "ways" "LTideFares$Ways;", .fieldLink RX3 12 RX3 "sea" "LTideFares$Sea;", .methodLink RX3 97 yX1_travellerNumber, .instanceMethod yX1_travellerNumber, .selects RX1 yX1_travellerNumber yX1_travellerNumber, .initialized RX1, .code yX1_travellerNumber cX1_travellerNumber 3 (some .int), .methodLink RX3 156 yX2_findFares, .instanceMethod yX2_findFares, .selects RX2 yX2_findFares yX2_findFares, .initialized RX2, .code yX2_findFares cX2_findFares 6 none, .methodLink RX3 232 yX2_islandsWithin, .instanceMethod yX2_islandsWithin, .selects RX2 yX2_islandsWithin yX2_islandsWithin, .code yX2_islandsWithin cX2_islandsWithin 4 (some .int)] ++ wsX30
theorem oi_X3_islandsFor : ∀ w ∈ o_X3_islandsFor, w ∈ wGT := wGT_of _ [145, 144, 308, 279, 280, 54, 281, 313, 314, 315, 55, 316, 345, 346, 347, 348, 150, 152, 154, 156, 158, 160] (by decide +kernel) (by decide +kernel)
def ct_X3_islandsFor : List (Instr × Nat) := [(.invokevirtual 97, 3), (.invokevirtual 156, 5), (.invokevirtual 232, 2)]
abbrev rm_X3_islandsFor : Room := { frames := 5, cells := 0, slots := 0, locals := 126 }
def b_X3_islandsFor_0 : List wAn := [(.aload_n 0, 1, 0, 0, 0), (.getfield 19, 3, 0, 3, 1), (.aload_n 0, 1, 0, 0, 0), (.getfield 12, 3, 0, 3, 0), (.aload_n 0, 1, 0, 0, 0), (.getfield 12, 3, 0, 3, 0), (.iload_n 1, 1, 0, 0, 0), (.iconst 0, 1, 0, 0, 0), (.invokevirtual 97, 3, 0, 1102, 3), (.aload_n 0, 1, 0, 0, 0), (.getfield 12, 3, 0, 3, 0), (.iload_n 1, 1, 0, 0, 0), (.iconst 1, 1, 0, 0, 0), (.invokevirtual 97, 3, 0, 1102, 3), (.sipush 1539, 3, 0, 0, 0), (.invokevirtual 156, 3, 1, 409, 5), (.aload_n 0, 1, 0, 0, 0), (.getfield 19, 3, 0, 3, 1), (.aload_n 0, 1, 0, 0, 0), (.getfield 12, 3, 0, 3, 0), (.iload_n 1, 1, 0, 0, 0), (.iconst 2, 1, 0, 0, 0), (.invokevirtual 97, 3, 0, 1102, 3), (.invokevirtual 232, 3, 2, 407, 2), (.ireturn, 1, 0, 0, 0)]
def q_X3_islandsFor : List (Nat × List wAn) := [(0, b_X3_islandsFor_0)]
abbrev ck_X3_islandsFor : List wAn → Nat → Bool := w_ckB o_X3_islandsFor RX3 vwCl 2 cX3_islandsFor ct_X3_islandsFor
theorem cq_X3_islandsFor : q_X3_islandsFor.all (fun q => ck_X3_islandsFor q.2 q.1) = true := by decide +kernel
def o_X3_joinedPairs : List Cond := [.fieldLink RX3 19 RX3 "ways" "LTideFares$Ways;", .fieldLink RX3 12 RX3 "sea" "LTideFares$Sea;", .methodLink RX3 149 yX2_findArrivals, .instanceMethod yX2_findArrivals, .selects RX2 yX2_findArrivals yX2_findArrivals, .initialized RX2, .code yX2_findArrivals cX2_findArrivals 7 none, .methodLink RX3 153 yX2_arrivalAt, .instanceMethod yX2_arrivalAt, .selects RX2 yX2_arrivalAt yX2_arrivalAt, .code yX2_arrivalAt cX2_arrivalAt 2 (some .int)] ++ wsX30
theorem oi_X3_joinedPairs : ∀ w ∈ o_X3_joinedPairs, w ∈ wGT := wGT_of _ [145, 144, 224, 225, 226, 55, 227, 259, 260, 261, 262, 150, 152, 154, 156, 158, 160] (by decide +kernel) (by decide +kernel)
def ct_X3_joinedPairs : List (Instr × Nat) := [(.invokevirtual 149, 4), (.invokevirtual 153, 2)]
abbrev rm_X3_joinedPairs : Room := { frames := 4, cells := 0, slots := 0, locals := 100 }
def b_X3_joinedPairs_0 : List wAn := [(.iconst 0, 1, 0, 0, 0), (.istore_n 1, 1, 0, 0, 0), (.iconst 0, 1, 0, 0, 0), (.istore_n 2, 1, 0, 0, 0)]
def b_X3_joinedPairs_4 : List wAn := [(.iload_n 2, 1, 0, 0, 0), (.bipush 8, 2, 0, 0, 0), (.if_icmp .ge 56, 3, 63, 0, 0), (.aload_n 0, 1, 0, 0, 0), (.getfield 19, 3, 0, 3, 1), (.aload_n 0, 1, 0, 0, 0), (.getfield 12, 3, 0, 3, 0), (.iload_n 2, 1, 0, 0, 0), (.iconst 0, 1, 0, 0, 0), (.invokevirtual 149, 3, 0, 409, 4), (.iconst 0, 1, 0, 0, 0), (.istore_n 3, 1, 0, 0, 0)]
def b_X3_joinedPairs_25 : List wAn := [(.iload_n 3, 1, 0, 0, 0), (.bipush 8, 2, 0, 0, 0), (.if_icmp .ge 29, 3, 57, 0, 0), (.iload_n 3, 1, 0, 0, 0), (.iload_n 2, 1, 0, 0, 0), (.if_icmp .eq 18, 3, 51, 0, 0), (.aload_n 0, 1, 0, 0, 0), (.getfield 19, 3, 0, 3, 1), (.iload_n 3, 1, 0, 0, 0), (.invokevirtual 153, 3, 1, 407, 2), (.iconst (-1), 1, 0, 0, 0), (.if_icmp .eq 6, 3, 51, 0, 0), (.iinc 1 1, 3, 0, 0, 0)]
def b_X3_joinedPairs_51 : List wAn := [(.iinc 3 1, 3, 0, 0, 0), (.goto (-29), 3, 25, 0, 0)]
def b_X3_joinedPairs_57 : List wAn := [(.iinc 2 1, 3, 0, 0, 0), (.goto (-56), 3, 4, 0, 0)]
def b_X3_joinedPairs_63 : List wAn := [(.iload_n 1, 1, 0, 0, 0), (.ireturn, 1, 0, 0, 0)]
def q_X3_joinedPairs : List (Nat × List wAn) := [(0, b_X3_joinedPairs_0), (4, b_X3_joinedPairs_4), (25, b_X3_joinedPairs_25), (51, b_X3_joinedPairs_51), (57, b_X3_joinedPairs_57), (63, b_X3_joinedPairs_63)]
abbrev ck_X3_joinedPairs : List wAn → Nat → Bool := w_ckB o_X3_joinedPairs RX3 vwCl 4 cX3_joinedPairs ct_X3_joinedPairs
theorem cq_X3_joinedPairs : q_X3_joinedPairs.all (fun q => ck_X3_joinedPairs q.2 q.1) = true := by decide +kernel
def o_X3_mix : List Cond := [.constantLong RX3 235 (Int64.ofNat 31)]
theorem oi_X3_mix : ∀ w ∈ o_X3_mix, w ∈ wGT := wGT_of _ [285] (by decide +kernel) (by decide +kernel)
def ct_X3_mix : List (Instr × Nat) := []
abbrev rm_X3_mix : Room := { frames := 0, cells := 0, slots := 0, locals := 0 }
def b_X3_mix_0 : List wAn := [(.ldc2_w 235, 3, 31, 0, 0), (.lload_n 0, 1, 0, 0, 0), (.lmul, 1, 0, 0, 0), (.lload_n 2, 1, 0, 0, 0), (.ladd, 1, 0, 0, 0), (.lreturn, 1, 0, 0, 0)]
def q_X3_mix : List (Nat × List wAn) := [(0, b_X3_mix_0)]
abbrev ck_X3_mix : List wAn → Nat → Bool := w_ckB o_X3_mix RX3 vwCl 4 cX3_mix ct_X3_mix
theorem cq_X3_mix : q_X3_mix.all (fun q => ck_X3_mix q.2 q.1) = true := by decide +kernel
def o_X3_mixFerry : List Cond := [.fieldLink RX3 12 RX3 "sea" "LTideFares$Sea;", .methodLink RX3 137 yX1_ferryNumber, .instanceMethod yX1_ferryNumber, .selects RX1 yX1_ferryNumber yX1_ferryNumber, .initialized RX1, .code yX1_ferryNumber cX1_ferryNumber 3 (some .int), .methodLink RX3 179 yX3_mix, .static yX3_mix, .initialized RX3, .code yX3_mix cX3_mix 4 (some .long), .methodLink RX3 140 yX1_nextLeaving, .instanceMethod yX1_nextLeaving, .selects RX1 yX1_nextLeaving yX1_nextLeaving, .code yX1_nextLeaving cX1_nextLeaving 4 (some .int), .methodLink RX3 143 yX1_price, .instanceMethod yX1_price, .selects RX1 yX1_price yX1_price, .code yX1_price cX1_price 4 (some .int)] ++ wsX30
theorem oi_X3_mixFerry : ∀ w ∈ o_X3_mixFerry, w ∈ wGT := wGT_of _ [144, 294, 240, 241, 54, 242, 282, 283, 53, 284, 295, 244, 245, 246, 296, 297, 298, 299, 150, 152, 154, 156, 158, 160] (by decide +kernel) (by decide +kernel)
def ct_X3_mixFerry : List (Instr × Nat) := [(.invokevirtual 137, 3), (.invokestatic 179, 2), (.invokevirtual 140, 3), (.invokevirtual 143, 3)]
abbrev rm_X3_mixFerry : Room := { frames := 2, cells := 0, slots := 0, locals := 48 }
def b_X3_mixFerry_0 : List wAn := [(.lload_n 1, 1, 0, 0, 0), (.lstore 4, 2, 0, 0, 0), (.iconst 0, 1, 0, 0, 0), (.istore 6, 2, 0, 0, 0)]
def b_X3_mixFerry_6 : List wAn := [(.iload 6, 2, 0, 0, 0), (.bipush 9, 2, 0, 0, 0), (.if_icmp .ge 27, 3, 37, 0, 0), (.lload 4, 2, 0, 0, 0), (.aload_n 0, 1, 0, 0, 0), (.getfield 12, 3, 0, 3, 0), (.iload_n 3, 1, 0, 0, 0), (.iload 6, 2, 0, 0, 0), (.invokevirtual 137, 3, 0, 1102, 3), (.i2l, 1, 0, 0, 0), (.invokestatic 179, 3, 1, 1, 2), (.lstore 4, 2, 0, 0, 0), (.iinc 6 1, 3, 0, 0, 0), (.goto (-28), 3, 6, 0, 0)]
def b_X3_mixFerry_37 : List wAn := [(.lload 4, 2, 0, 0, 0), (.aload_n 0, 1, 0, 0, 0), (.getfield 12, 3, 0, 3, 0), (.iload_n 3, 1, 0, 0, 0), (.bipush 60, 2, 0, 0, 0), (.invokevirtual 140, 3, 2, 1102, 3), (.i2l, 1, 0, 0, 0), (.invokestatic 179, 3, 1, 1, 2), (.lstore 4, 2, 0, 0, 0), (.lload 4, 2, 0, 0, 0), (.aload_n 0, 1, 0, 0, 0), (.getfield 12, 3, 0, 3, 0), (.iload_n 3, 1, 0, 0, 0), (.bipush 60, 2, 0, 0, 0), (.invokevirtual 143, 3, 3, 1102, 3), (.i2l, 1, 0, 0, 0), (.invokestatic 179, 3, 1, 1, 2), (.lreturn, 1, 0, 0, 0)]
def q_X3_mixFerry : List (Nat × List wAn) := [(0, b_X3_mixFerry_0), (6, b_X3_mixFerry_6), (37, b_X3_mixFerry_37)]
abbrev ck_X3_mixFerry : List wAn → Nat → Bool := w_ckB o_X3_mixFerry RX3 vwCl 7 cX3_mixFerry ct_X3_mixFerry
theorem cq_X3_mixFerry : q_X3_mixFerry.all (fun q => ck_X3_mixFerry q.2 q.1) = true := by decide +kernel
def o_X3_mixTraveller : List Cond := [.fieldLink RX3 12 RX3 "sea" "LTideFares$Sea;", .methodLink RX3 97 yX1_travellerNumber, .instanceMethod yX1_travellerNumber, .selects RX1 yX1_travellerNumber yX1_travellerNumber, .initialized RX1, .code yX1_travellerNumber cX1_travellerNumber 3 (some .int), .methodLink RX3 179 yX3_mix, .static yX3_mix, .initialized RX3, .code yX3_mix cX3_mix 4 (some .long)] ++ wsX30
theorem oi_X3_mixTraveller : ∀ w ∈ o_X3_mixTraveller, w ∈ wGT := wGT_of _ [144, 308, 279, 280, 54, 281, 282, 283, 53, 284, 150, 152, 154, 156, 158, 160] (by decide +kernel) (by decide +kernel)
def ct_X3_mixTraveller : List (Instr × Nat) := [(.invokevirtual 97, 3), (.invokestatic 179, 2)]
abbrev rm_X3_mixTraveller : Room := { frames := 1, cells := 0, slots := 0, locals := 23 }
def b_X3_mixTraveller_0 : List wAn := [(.lload_n 1, 1, 0, 0, 0), (.lstore 4, 2, 0, 0, 0), (.iconst 0, 1, 0, 0, 0), (.istore 6, 2, 0, 0, 0)]
def b_X3_mixTraveller_6 : List wAn := [(.iload 6, 2, 0, 0, 0), (.iconst 5, 1, 0, 0, 0), (.if_icmp .ge 27, 3, 36, 0, 0), (.lload 4, 2, 0, 0, 0), (.aload_n 0, 1, 0, 0, 0), (.getfield 12, 3, 0, 3, 0), (.iload_n 3, 1, 0, 0, 0), (.iload 6, 2, 0, 0, 0), (.invokevirtual 97, 3, 0, 1102, 3), (.i2l, 1, 0, 0, 0), (.invokestatic 179, 3, 1, 1, 2), (.lstore 4, 2, 0, 0, 0), (.iinc 6 1, 3, 0, 0, 0), (.goto (-27), 3, 6, 0, 0)]
def b_X3_mixTraveller_36 : List wAn := [(.lload 4, 2, 0, 0, 0), (.lreturn, 1, 0, 0, 0)]
def q_X3_mixTraveller : List (Nat × List wAn) := [(0, b_X3_mixTraveller_0), (6, b_X3_mixTraveller_6), (36, b_X3_mixTraveller_36)]
abbrev ck_X3_mixTraveller : List wAn → Nat → Bool := w_ckB o_X3_mixTraveller RX3 vwCl 7 cX3_mixTraveller ct_X3_mixTraveller
theorem cq_X3_mixTraveller : q_X3_mixTraveller.all (fun q => ck_X3_mixTraveller q.2 q.1) = true := by decide +kernel
def o_X3_mixWays : List Cond := [.fieldLink RX3 19 RX3 "ways" "LTideFares$Ways;", .fieldLink RX3 12 RX3 "sea" "LTideFares$Sea;", .methodLink RX3 149 yX2_findArrivals, .instanceMethod yX2_findArrivals, .selects RX2 yX2_findArrivals yX2_findArrivals, .initialized RX2, .code yX2_findArrivals cX2_findArrivals 7 none, .methodLink RX3 156 yX2_findFares, .instanceMethod yX2_findFares, .selects RX2 yX2_findFares yX2_findFares, .code yX2_findFares cX2_findFares 6 none, .methodLink RX3 166 yX2_findStarts, .instanceMethod yX2_findStarts, .selects RX2 yX2_findStarts yX2_findStarts, .code yX2_findStarts cX2_findStarts 7 none, .methodLink RX3 153 yX2_arrivalAt, .instanceMethod yX2_arrivalAt, .selects RX2 yX2_arrivalAt yX2_arrivalAt, .code yX2_arrivalAt cX2_arrivalAt 2 (some .int), .methodLink RX3 179 yX3_mix, .static yX3_mix, .initialized RX3, .code yX3_mix cX3_mix 4 (some .long), .methodLink RX3 160 yX2_fareTo, .instanceMethod yX2_fareTo, .selects RX2 yX2_fareTo yX2_fareTo, .code yX2_fareTo cX2_fareTo 2 (some .int), .methodLink RX3 169 yX2_startFrom, .instanceMethod yX2_startFrom, .selects RX2 yX2_startFrom yX2_startFrom, .code yX2_startFrom cX2_startFrom 2 (some .int)] ++ wsX30
theorem oi_X3_mixWays : ∀ w ∈ o_X3_mixWays, w ∈ wGT := wGT_of _ [145, 144, 224, 225, 226, 55, 227, 313, 314, 315, 316, 353, 354, 355, 356, 259, 260, 261, 262, 282, 283, 53, 284, 370, 371, 372, 373, 374, 375, 376, 377, 150, 152, 154, 156, 158, 160] (by decide +kernel) (by decide +kernel)
def ct_X3_mixWays : List (Instr × Nat) := [(.invokevirtual 149, 4), (.invokevirtual 156, 5), (.invokevirtual 166, 4), (.invokevirtual 153, 2), (.invokestatic 179, 2), (.invokevirtual 160, 2), (.invokevirtual 169, 2)]
abbrev rm_X3_mixWays : Room := { frames := 5, cells := 0, slots := 0, locals := 126 }
def b_X3_mixWays_0 : List wAn := [(.lload_n 1, 1, 0, 0, 0), (.lstore_n 3, 1, 0, 0, 0), (.aload_n 0, 1, 0, 0, 0), (.getfield 19, 3, 0, 3, 1), (.aload_n 0, 1, 0, 0, 0), (.getfield 12, 3, 0, 3, 0), (.iconst 0, 1, 0, 0, 0), (.bipush 30, 2, 0, 0, 0), (.invokevirtual 149, 3, 0, 409, 4), (.aload_n 0, 1, 0, 0, 0), (.getfield 19, 3, 0, 3, 1), (.aload_n 0, 1, 0, 0, 0), (.getfield 12, 3, 0, 3, 0), (.iconst 0, 1, 0, 0, 0), (.bipush 30, 2, 0, 0, 0), (.sipush 400, 3, 0, 0, 0), (.invokevirtual 156, 3, 1, 409, 5), (.iconst 1, 1, 0, 0, 0), (.istore 5, 2, 0, 0, 0)]
def b_X3_mixWays_36 : List wAn := [(.iload 5, 2, 0, 0, 0), (.bipush 8, 2, 0, 0, 0), (.if_icmp .ge 69, 3, 109, 0, 0), (.aload_n 0, 1, 0, 0, 0), (.getfield 19, 3, 0, 3, 1), (.aload_n 0, 1, 0, 0, 0), (.getfield 12, 3, 0, 3, 0), (.iload 5, 2, 0, 0, 0), (.sipush 600, 3, 0, 0, 0), (.invokevirtual 166, 3, 2, 409, 4), (.lload_n 3, 1, 0, 0, 0), (.aload_n 0, 1, 0, 0, 0), (.getfield 19, 3, 0, 3, 1), (.iload 5, 2, 0, 0, 0), (.invokevirtual 153, 3, 3, 407, 2), (.i2l, 1, 0, 0, 0), (.invokestatic 179, 3, 4, 1, 2), (.lstore_n 3, 1, 0, 0, 0), (.lload_n 3, 1, 0, 0, 0), (.aload_n 0, 1, 0, 0, 0), (.getfield 19, 3, 0, 3, 1), (.iload 5, 2, 0, 0, 0), (.invokevirtual 160, 3, 5, 407, 2), (.i2l, 1, 0, 0, 0), (.invokestatic 179, 3, 4, 1, 2), (.lstore_n 3, 1, 0, 0, 0), (.lload_n 3, 1, 0, 0, 0), (.aload_n 0, 1, 0, 0, 0), (.getfield 19, 3, 0, 3, 1), (.iconst 0, 1, 0, 0, 0), (.invokevirtual 169, 3, 6, 407, 2), (.i2l, 1, 0, 0, 0), (.invokestatic 179, 3, 4, 1, 2), (.lstore_n 3, 1, 0, 0, 0), (.iinc 5 1, 3, 0, 0, 0), (.goto (-70), 3, 36, 0, 0)]
def b_X3_mixWays_109 : List wAn := [(.lload_n 3, 1, 0, 0, 0), (.lreturn, 1, 0, 0, 0)]
def q_X3_mixWays : List (Nat × List wAn) := [(0, b_X3_mixWays_0), (36, b_X3_mixWays_36), (109, b_X3_mixWays_109)]
abbrev ck_X3_mixWays : List wAn → Nat → Bool := w_ckB o_X3_mixWays RX3 vwCl 6 cX3_mixWays ct_X3_mixWays
theorem cq_X3_mixWays : q_X3_mixWays.all (fun q => ck_X3_mixWays q.2 q.1) = true := by decide +kernel
def o_X3_mixText : List Cond := [.fieldLink RX3 26 RX3 "text" "LTideFares$FerryText;", .methodLink RX3 111 yX0_size, .instanceMethod yX0_size, .selects RX0 yX0_size yX0_size, .initialized RX0, .code yX0_size cX0_size 1 (some .int), .methodLink RX3 179 yX3_mix, .static yX3_mix, .initialized RX3, .code yX3_mix cX3_mix 4 (some .long), .methodLink RX3 237 yX0_codeAt, .instanceMethod yX0_codeAt, .selects RX0 yX0_codeAt yX0_codeAt, .code yX0_codeAt cX0_codeAt 2 (some .int)] ++ wsX30
theorem oi_X3_mixText : ∀ w ∈ o_X3_mixText, w ∈ wGT := wGT_of _ [146, 167, 168, 169, 56, 170, 282, 283, 53, 284, 389, 390, 391, 392, 150, 152, 154, 156, 158, 160] (by decide +kernel) (by decide +kernel)
def ct_X3_mixText : List (Instr × Nat) := [(.invokevirtual 111, 1), (.invokestatic 179, 2), (.invokevirtual 237, 2)]
abbrev rm_X3_mixText : Room := { frames := 1, cells := 0, slots := 0, locals := 23 }
def b_X3_mixText_0 : List wAn := [(.lload_n 1, 1, 0, 0, 0), (.aload_n 0, 1, 0, 0, 0), (.getfield 26, 3, 0, 3, 2), (.invokevirtual 111, 3, 0, 103, 1), (.i2l, 1, 0, 0, 0), (.invokestatic 179, 3, 1, 1, 2), (.lstore_n 3, 1, 0, 0, 0), (.iconst 0, 1, 0, 0, 0), (.istore 5, 2, 0, 0, 0)]
def b_X3_mixText_16 : List wAn := [(.iload 5, 2, 0, 0, 0), (.aload_n 0, 1, 0, 0, 0), (.getfield 26, 3, 0, 3, 2), (.invokevirtual 111, 3, 0, 103, 1), (.if_icmp .ge 24, 3, 49, 0, 0), (.lload_n 3, 1, 0, 0, 0), (.aload_n 0, 1, 0, 0, 0), (.getfield 26, 3, 0, 3, 2), (.iload 5, 2, 0, 0, 0), (.invokevirtual 237, 3, 2, 103, 2), (.i2l, 1, 0, 0, 0), (.invokestatic 179, 3, 1, 1, 2), (.lstore_n 3, 1, 0, 0, 0), (.iinc 5 1, 3, 0, 0, 0), (.goto (-30), 3, 16, 0, 0)]
def b_X3_mixText_49 : List wAn := [(.lload_n 3, 1, 0, 0, 0), (.lreturn, 1, 0, 0, 0)]
def q_X3_mixText : List (Nat × List wAn) := [(0, b_X3_mixText_0), (16, b_X3_mixText_16), (49, b_X3_mixText_49)]
abbrev ck_X3_mixText : List wAn → Nat → Bool := w_ckB o_X3_mixText RX3 vwCl 6 cX3_mixText ct_X3_mixText
theorem cq_X3_mixText : q_X3_mixText.all (fun q => ck_X3_mixText q.2 q.1) = true := by decide +kernel
def o_X3_bitsOfShare : List Cond := [.constantLong RX3 240 (Int64.ofNat 1023), .constantDouble RX3 242 (UInt64.ofNat 4611686018427387904), .constantLong RX3 244 (Int64.ofNat 4503599627370496), .constantDouble RX3 246 (UInt64.ofNat 4841369599423283200)]
theorem oi_X3_bitsOfShare : ∀ w ∈ o_X3_bitsOfShare, w ∈ wGT := wGT_of _ [381, 382, 383, 384] (by decide +kernel) (by decide +kernel)
def ct_X3_bitsOfShare : List (Instr × Nat) := []
abbrev rm_X3_bitsOfShare : Room := { frames := 0, cells := 0, slots := 0, locals := 0 }
def b_X3_bitsOfShare_0 : List wAn := [(.dload_n 0, 1, 0, 0, 0), (.dconst 0, 1, 0, 0, 0), (.dcmp .g, 1, 0, 0, 0), (.ifCond .gt 5, 3, 8, 0, 0), (.lconst 0, 1, 0, 0, 0), (.lreturn, 1, 0, 0, 0)]
def b_X3_bitsOfShare_8 : List wAn := [(.dload_n 0, 1, 0, 0, 0), (.dstore_n 2, 1, 0, 0, 0), (.ldc2_w 240, 3, 1023, 0, 0), (.lstore 4, 2, 0, 0, 0)]
def b_X3_bitsOfShare_15 : List wAn := [(.dload_n 2, 1, 0, 0, 0), (.dconst 1, 1, 0, 0, 0), (.dcmp .g, 1, 0, 0, 0), (.ifCond .ge 25, 3, 43, 0, 0), (.lload 4, 2, 0, 0, 0), (.lconst 0, 1, 0, 0, 0), (.lcmp, 1, 0, 0, 0), (.ifCond .le 18, 3, 43, 0, 0), (.dload_n 2, 1, 0, 0, 0), (.ldc2_w 242, 3, 4611686018427387904, 1, 0), (.dmul, 1, 0, 0, 0), (.dstore_n 2, 1, 0, 0, 0), (.lload 4, 2, 0, 0, 0), (.lconst 1, 1, 0, 0, 0), (.lsub, 1, 0, 0, 0), (.lstore 4, 2, 0, 0, 0), (.goto (-25), 3, 15, 0, 0)]
def b_X3_bitsOfShare_43 : List wAn := [(.lload 4, 2, 0, 0, 0), (.ldc2_w 244, 3, 4503599627370496, 0, 0), (.lmul, 1, 0, 0, 0), (.dload_n 2, 1, 0, 0, 0), (.dconst 1, 1, 0, 0, 0), (.dsub, 1, 0, 0, 0), (.ldc2_w 246, 3, 4841369599423283200, 1, 0), (.dmul, 1, 0, 0, 0), (.d2l, 1, 0, 0, 0), (.ladd, 1, 0, 0, 0), (.lreturn, 1, 0, 0, 0)]
def q_X3_bitsOfShare : List (Nat × List wAn) := [(0, b_X3_bitsOfShare_0), (8, b_X3_bitsOfShare_8), (15, b_X3_bitsOfShare_15), (43, b_X3_bitsOfShare_43)]
abbrev ck_X3_bitsOfShare : List wAn → Nat → Bool := w_ckB o_X3_bitsOfShare RX3 vwCl 6 cX3_bitsOfShare ct_X3_bitsOfShare
theorem cq_X3_bitsOfShare : q_X3_bitsOfShare.all (fun q => ck_X3_bitsOfShare q.2 q.1) = true := by decide +kernel
def o_X4_in : List Cond := []
theorem oi_X4_in : ∀ w ∈ o_X4_in, w ∈ wGT := wGT_of _ [] (by decide +kernel) (by decide +kernel)
def ct_X4_in : List (Instr × Nat) := []
abbrev rm_X4_in : Room := { frames := 0, cells := 0, slots := 0, locals := 0 }
def b_X4_in_0 : List wAn := [(.iload_n 0, 1, 0, 0, 0), (.iload_n 1, 1, 0, 0, 0), (.if_icmp .lt 12, 3, 14, 0, 0), (.iload_n 0, 1, 0, 0, 0), (.iload_n 2, 1, 0, 0, 0), (.if_icmp .gt 7, 3, 14, 0, 0), (.iconst 1, 1, 0, 0, 0), (.goto 4, 3, 15, 0, 0)]
def b_X4_in_14 : List wAn := [(.iconst 0, 1, 0, 0, 0)]
def b_X4_in_15 : List wAn := [(.ireturn, 1, 0, 0, 0)]
def q_X4_in : List (Nat × List wAn) := [(0, b_X4_in_0), (14, b_X4_in_14), (15, b_X4_in_15)]
abbrev ck_X4_in : List wAn → Nat → Bool := w_ckB o_X4_in RX4 vwCl 3 cX4_in ct_X4_in
theorem cq_X4_in : q_X4_in.all (fun q => ck_X4_in q.2 q.1) = true := by decide +kernel
def o_X4_isIsland : List Cond := [.methodLink RX4 29 yX4_in, .static yX4_in, .initialized RX4, .code yX4_in cX4_in 3 (some .boolean)]
theorem oi_X4_isIsland : ∀ w ∈ o_X4_isIsland, w ∈ wGT := wGT_of _ [802, 803, 57, 804] (by decide +kernel) (by decide +kernel)
def ct_X4_isIsland : List (Instr × Nat) := [(.invokestatic 29, 3)]
abbrev rm_X4_isIsland : Room := { frames := 1, cells := 0, slots := 0, locals := 22 }
def b_X4_isIsland_0 : List wAn := [(.iload_n 0, 1, 0, 0, 0), (.iconst 0, 1, 0, 0, 0), (.bipush 7, 2, 0, 0, 0), (.invokestatic 29, 3, 0, 1, 3), (.ireturn, 1, 0, 0, 0)]
def q_X4_isIsland : List (Nat × List wAn) := [(0, b_X4_isIsland_0)]
abbrev ck_X4_isIsland : List wAn → Nat → Bool := w_ckB o_X4_isIsland RX4 vwCl 1 cX4_isIsland ct_X4_isIsland
theorem cq_X4_isIsland : q_X4_isIsland.all (fun q => ck_X4_isIsland q.2 q.1) = true := by decide +kernel
def o_X4_isPerson : List Cond := [.methodLink RX4 29 yX4_in, .static yX4_in, .initialized RX4, .code yX4_in cX4_in 3 (some .boolean)]
theorem oi_X4_isPerson : ∀ w ∈ o_X4_isPerson, w ∈ wGT := wGT_of _ [802, 803, 57, 804] (by decide +kernel) (by decide +kernel)
def ct_X4_isPerson : List (Instr × Nat) := [(.invokestatic 29, 3)]
abbrev rm_X4_isPerson : Room := { frames := 1, cells := 0, slots := 0, locals := 22 }
def b_X4_isPerson_0 : List wAn := [(.iload_n 0, 1, 0, 0, 0), (.iconst 0, 1, 0, 0, 0), (.iconst 3, 1, 0, 0, 0), (.invokestatic 29, 3, 0, 1, 3), (.ireturn, 1, 0, 0, 0)]
def q_X4_isPerson : List (Nat × List wAn) := [(0, b_X4_isPerson_0)]
abbrev ck_X4_isPerson : List wAn → Nat → Bool := w_ckB o_X4_isPerson RX4 vwCl 1 cX4_isPerson ct_X4_isPerson
theorem cq_X4_isPerson : q_X4_isPerson.all (fun q => ck_X4_isPerson q.2 q.1) = true := by decide +kernel
def o_X4_isFerry : List Cond := [.fieldLink RX4 7 RX4 "row" "[I", .methodLink RX4 29 yX4_in, .static yX4_in, .initialized RX4, .code yX4_in cX4_in 3 (some .boolean)] ++ wsX40
theorem oi_X4_isFerry : ∀ w ∈ o_X4_isFerry, w ∈ wGT := wGT_of _ [751, 802, 803, 57, 804, 762, 764, 766, 768, 770, 772, 774, 776, 778, 780, 782] (by decide +kernel) (by decide +kernel)
def ct_X4_isFerry : List (Instr × Nat) := [(.invokestatic 29, 3)]
abbrev rm_X4_isFerry : Room := { frames := 1, cells := 0, slots := 0, locals := 22 }
def b_X4_isFerry_0 : List wAn := [(.iload_n 1, 1, 0, 0, 0), (.iconst 0, 1, 0, 0, 0), (.aload_n 0, 1, 0, 0, 0), (.getfield 7, 3, 0, 4, 0), (.iconst 2, 1, 0, 0, 0), (.iaload, 1, 1, 0, 0), (.iconst 1, 1, 0, 0, 0), (.isub, 1, 0, 0, 0), (.invokestatic 29, 3, 0, 1, 3), (.ireturn, 1, 0, 0, 0)]
def q_X4_isFerry : List (Nat × List wAn) := [(0, b_X4_isFerry_0)]
abbrev ck_X4_isFerry : List wAn → Nat → Bool := w_ckB o_X4_isFerry RX4 vwCl 2 cX4_isFerry ct_X4_isFerry
theorem cq_X4_isFerry : q_X4_isFerry.all (fun q => ck_X4_isFerry q.2 q.1) = true := by decide +kernel
def o_X4_thrown : List Cond := [.fieldLink RX4 33 RX4 "thrown" "I"] ++ wsX40
theorem oi_X4_thrown : ∀ w ∈ o_X4_thrown, w ∈ wGT := wGT_of _ [754, 762, 764, 766, 768, 770, 772, 774, 776, 778, 780, 782] (by decide +kernel) (by decide +kernel)
def ct_X4_thrown : List (Instr × Nat) := []
abbrev rm_X4_thrown : Room := { frames := 0, cells := 0, slots := 0, locals := 0 }
def b_X4_thrown_0 : List wAn := [(.aload_n 0, 1, 0, 0, 0), (.getfield 33, 3, 0, 4, 3), (.ireturn, 1, 0, 0, 0)]
def q_X4_thrown : List (Nat × List wAn) := [(0, b_X4_thrown_0)]
abbrev ck_X4_thrown : List wAn → Nat → Bool := w_ckB o_X4_thrown RX4 vwCl 1 cX4_thrown ct_X4_thrown
theorem cq_X4_thrown : q_X4_thrown.all (fun q => ck_X4_thrown q.2 q.1) = true := by decide +kernel
def o_X4_refused : List Cond := [.fieldLink RX4 33 RX4 "thrown" "I"] ++ wsX40
theorem oi_X4_refused : ∀ w ∈ o_X4_refused, w ∈ wGT := wGT_of _ [754, 762, 764, 766, 768, 770, 772, 774, 776, 778, 780, 782] (by decide +kernel) (by decide +kernel)
def ct_X4_refused : List (Instr × Nat) := []
abbrev rm_X4_refused : Room := { frames := 0, cells := 0, slots := 0, locals := 0 }
def b_X4_refused_0 : List wAn := [(.aload_n 0, 1, 0, 0, 0), (.iload_n 1, 1, 0, 0, 0), (.ifCond .eq 7, 3, 9, 0, 0), (.iconst 1, 1, 0, 0, 0), (.goto 20, 3, 26, 0, 0)]
def b_X4_refused_9 : List wAn := [(.iload_n 2, 1, 0, 0, 0), (.ifCond .eq 7, 3, 17, 0, 0), (.iconst 2, 1, 0, 0, 0), (.goto 12, 3, 26, 0, 0)]
def b_X4_refused_17 : List wAn := [(.iload_n 3, 1, 0, 0, 0), (.ifCond .eq 7, 3, 25, 0, 0), (.iconst 3, 1, 0, 0, 0), (.goto 4, 3, 26, 0, 0)]
def b_X4_refused_25 : List wAn := [(.iconst 0, 1, 0, 0, 0)]
def b_X4_refused_26 : List wAn := [(.putfield 33, 3, 0, 4, 3), (.aload_n 0, 1, 0, 0, 0), (.getfield 33, 3, 0, 4, 3), (.ifCond .eq 7, 3, 40, 0, 0), (.iconst 1, 1, 0, 0, 0), (.goto 4, 3, 41, 0, 0)]
def b_X4_refused_40 : List wAn := [(.iconst 0, 1, 0, 0, 0)]
def b_X4_refused_41 : List wAn := [(.ireturn, 1, 0, 0, 0)]
def q_X4_refused : List (Nat × List wAn) := [(0, b_X4_refused_0), (9, b_X4_refused_9), (17, b_X4_refused_17), (25, b_X4_refused_25), (26, b_X4_refused_26), (40, b_X4_refused_40), (41, b_X4_refused_41)]
abbrev ck_X4_refused : List wAn → Nat → Bool := w_ckB o_X4_refused RX4 vwCl 4 cX4_refused ct_X4_refused
theorem cq_X4_refused : q_X4_refused.all (fun q => ck_X4_refused q.2 q.1) = true := by decide +kernel
def o_X4_of : List Cond := [.fieldLink RX4 7 RX4 "row" "[I"] ++ wsX40
theorem oi_X4_of : ∀ w ∈ o_X4_of, w ∈ wGT := wGT_of _ [751, 762, 764, 766, 768, 770, 772, 774, 776, 778, 780, 782] (by decide +kernel) (by decide +kernel)
def ct_X4_of : List (Instr × Nat) := []
abbrev rm_X4_of : Room := { frames := 0, cells := 0, slots := 0, locals := 0 }
def b_X4_of_0 : List wAn := [(.aload_n 0, 1, 0, 0, 0), (.getfield 7, 3, 0, 4, 0), (.iconst 3, 1, 0, 0, 0), (.bipush 9, 2, 0, 0, 0), (.iload_n 1, 1, 0, 0, 0), (.imul, 1, 0, 0, 0), (.iadd, 1, 0, 0, 0), (.iload_n 2, 1, 0, 0, 0), (.iadd, 1, 0, 0, 0), (.iaload, 1, 1, 0, 0), (.ireturn, 1, 0, 0, 0)]
def q_X4_of : List (Nat × List wAn) := [(0, b_X4_of_0)]
abbrev ck_X4_of : List wAn → Nat → Bool := w_ckB o_X4_of RX4 vwCl 3 cX4_of ct_X4_of
theorem cq_X4_of : q_X4_of.all (fun q => ck_X4_of q.2 q.1) = true := by decide +kernel
def o_X4_ofPerson : List Cond := [.fieldLink RX4 7 RX4 "row" "[I"] ++ wsX40
theorem oi_X4_ofPerson : ∀ w ∈ o_X4_ofPerson, w ∈ wGT := wGT_of _ [751, 762, 764, 766, 768, 770, 772, 774, 776, 778, 780, 782] (by decide +kernel) (by decide +kernel)
def ct_X4_ofPerson : List (Instr × Nat) := []
abbrev rm_X4_ofPerson : Room := { frames := 0, cells := 0, slots := 0, locals := 0 }
def b_X4_ofPerson_0 : List wAn := [(.aload_n 0, 1, 0, 0, 0), (.getfield 7, 3, 0, 4, 0), (.sipush 129, 3, 0, 0, 0), (.iconst 5, 1, 0, 0, 0), (.iload_n 1, 1, 0, 0, 0), (.imul, 1, 0, 0, 0), (.iadd, 1, 0, 0, 0), (.iload_n 2, 1, 0, 0, 0), (.iadd, 1, 0, 0, 0), (.iaload, 1, 1, 0, 0), (.ireturn, 1, 0, 0, 0)]
def q_X4_ofPerson : List (Nat × List wAn) := [(0, b_X4_ofPerson_0)]
abbrev ck_X4_ofPerson : List wAn → Nat → Bool := w_ckB o_X4_ofPerson RX4 vwCl 3 cX4_ofPerson ct_X4_ofPerson
theorem cq_X4_ofPerson : q_X4_ofPerson.all (fun q => ck_X4_ofPerson q.2 q.1) = true := by decide +kernel
def o_X4_save : List Cond := [.fieldLink RX4 37 RX4 "states" "I", .fieldLink RX4 13 RX4 "past" "[I", .fieldLink RX4 7 RX4 "row" "[I"] ++ wsX40
theorem oi_X4_save : ∀ w ∈ o_X4_save, w ∈ wGT := wGT_of _ [753, 752, 751, 762, 764, 766, 768, 770, 772, 774, 776, 778, 780, 782] (by decide +kernel) (by decide +kernel)
def ct_X4_save : List (Instr × Nat) := []
abbrev rm_X4_save : Room := { frames := 0, cells := 0, slots := 0, locals := 0 }
def b_X4_save_0 : List wAn := [(.aload_n 0, 1, 0, 0, 0), (.getfield 37, 3, 0, 4, 2), (.bipush 6, 2, 0, 0, 0), (.if_icmp .ne 44, 3, 50, 0, 0), (.iconst 0, 1, 0, 0, 0), (.istore_n 1, 1, 0, 0, 0)]
def b_X4_save_11 : List wAn := [(.iload_n 1, 1, 0, 0, 0), (.sipush 745, 3, 0, 0, 0), (.if_icmp .ge 25, 3, 40, 0, 0), (.aload_n 0, 1, 0, 0, 0), (.getfield 13, 3, 0, 4, 1), (.iload_n 1, 1, 0, 0, 0), (.aload_n 0, 1, 0, 0, 0), (.getfield 13, 3, 0, 4, 1), (.sipush 149, 3, 0, 0, 0), (.iload_n 1, 1, 0, 0, 0), (.iadd, 1, 0, 0, 0), (.iaload, 1, 2, 0, 0), (.iastore, 1, 2, 0, 0), (.iinc 1 1, 3, 0, 0, 0), (.goto (-26), 3, 11, 0, 0)]
def b_X4_save_40 : List wAn := [(.aload_n 0, 1, 0, 0, 0), (.dup, 1, 0, 0, 0), (.getfield 37, 3, 0, 4, 2), (.iconst 1, 1, 0, 0, 0), (.isub, 1, 0, 0, 0), (.putfield 37, 3, 0, 4, 2)]
def b_X4_save_50 : List wAn := [(.iconst 0, 1, 0, 0, 0), (.istore_n 1, 1, 0, 0, 0)]
def b_X4_save_52 : List wAn := [(.iload_n 1, 1, 0, 0, 0), (.sipush 149, 3, 0, 0, 0), (.if_icmp .ge 30, 3, 86, 0, 0), (.aload_n 0, 1, 0, 0, 0), (.getfield 13, 3, 0, 4, 1), (.sipush 149, 3, 0, 0, 0), (.aload_n 0, 1, 0, 0, 0), (.getfield 37, 3, 0, 4, 2), (.imul, 1, 0, 0, 0), (.iload_n 1, 1, 0, 0, 0), (.iadd, 1, 0, 0, 0), (.aload_n 0, 1, 0, 0, 0), (.getfield 7, 3, 0, 4, 0), (.iload_n 1, 1, 0, 0, 0), (.iaload, 1, 1, 0, 0), (.iastore, 1, 2, 0, 0), (.iinc 1 1, 3, 0, 0, 0), (.goto (-31), 3, 52, 0, 0)]
def b_X4_save_86 : List wAn := [(.aload_n 0, 1, 0, 0, 0), (.dup, 1, 0, 0, 0), (.getfield 37, 3, 0, 4, 2), (.iconst 1, 1, 0, 0, 0), (.iadd, 1, 0, 0, 0), (.putfield 37, 3, 0, 4, 2), (.return_, 1, 0, 0, 0)]
def q_X4_save : List (Nat × List wAn) := [(0, b_X4_save_0), (11, b_X4_save_11), (40, b_X4_save_40), (50, b_X4_save_50), (52, b_X4_save_52), (86, b_X4_save_86)]
abbrev ck_X4_save : List wAn → Nat → Bool := w_ckB o_X4_save RX4 vwCl 2 cX4_save ct_X4_save
theorem cq_X4_save : q_X4_save.all (fun q => ck_X4_save q.2 q.1) = true := by decide +kernel
def o_X4_undo : List Cond := [.fieldLink RX4 37 RX4 "states" "I", .fieldLink RX4 7 RX4 "row" "[I", .fieldLink RX4 13 RX4 "past" "[I", .methodLink RX4 40 yX4_refused, .instanceMethod yX4_refused, .selects RX4 yX4_refused yX4_refused, .initialized RX4, .code yX4_refused cX4_refused 4 (some .boolean)] ++ wsX40
theorem oi_X4_undo : ∀ w ∈ o_X4_undo, w ∈ wGT := wGT_of _ [753, 751, 752, 794, 796, 29, 57, 797, 762, 764, 766, 768, 770, 772, 774, 776, 778, 780, 782] (by decide +kernel) (by decide +kernel)
def ct_X4_undo : List (Instr × Nat) := [(.invokevirtual 40, 4)]
abbrev rm_X4_undo : Room := { frames := 1, cells := 0, slots := 0, locals := 23 }
def b_X4_undo_0 : List wAn := [(.aload_n 0, 1, 0, 0, 0), (.aload_n 0, 1, 0, 0, 0), (.getfield 37, 3, 0, 4, 2), (.ifCond .ne 7, 3, 12, 0, 0), (.iconst 1, 1, 0, 0, 0), (.goto 4, 3, 13, 0, 0)]
def b_X4_undo_12 : List wAn := [(.iconst 0, 1, 0, 0, 0)]
def b_X4_undo_13 : List wAn := [(.iconst 0, 1, 0, 0, 0), (.iconst 0, 1, 0, 0, 0), (.invokevirtual 40, 3, 0, 0, 4), (.ifCond .eq 5, 3, 23, 0, 0), (.iconst 0, 1, 0, 0, 0), (.ireturn, 1, 0, 0, 0)]
def b_X4_undo_23 : List wAn := [(.aload_n 0, 1, 0, 0, 0), (.dup, 1, 0, 0, 0), (.getfield 37, 3, 0, 4, 2), (.iconst 1, 1, 0, 0, 0), (.isub, 1, 0, 0, 0), (.putfield 37, 3, 0, 4, 2), (.iconst 0, 1, 0, 0, 0), (.istore_n 1, 1, 0, 0, 0)]
def b_X4_undo_35 : List wAn := [(.iload_n 1, 1, 0, 0, 0), (.sipush 149, 3, 0, 0, 0), (.if_icmp .ge 30, 3, 69, 0, 0), (.aload_n 0, 1, 0, 0, 0), (.getfield 7, 3, 0, 4, 0), (.iload_n 1, 1, 0, 0, 0), (.aload_n 0, 1, 0, 0, 0), (.getfield 13, 3, 0, 4, 1), (.sipush 149, 3, 0, 0, 0), (.aload_n 0, 1, 0, 0, 0), (.getfield 37, 3, 0, 4, 2), (.imul, 1, 0, 0, 0), (.iload_n 1, 1, 0, 0, 0), (.iadd, 1, 0, 0, 0), (.iaload, 1, 2, 0, 0), (.iastore, 1, 1, 0, 0), (.iinc 1 1, 3, 0, 0, 0), (.goto (-31), 3, 35, 0, 0)]
def b_X4_undo_69 : List wAn := [(.aload_n 0, 1, 0, 0, 0), (.getfield 37, 3, 0, 4, 2), (.ireturn, 1, 0, 0, 0)]
def q_X4_undo : List (Nat × List wAn) := [(0, b_X4_undo_0), (12, b_X4_undo_12), (13, b_X4_undo_13), (23, b_X4_undo_23), (35, b_X4_undo_35), (69, b_X4_undo_69)]
abbrev ck_X4_undo : List wAn → Nat → Bool := w_ckB o_X4_undo RX4 vwCl 2 cX4_undo ct_X4_undo
theorem cq_X4_undo : q_X4_undo.all (fun q => ck_X4_undo q.2 q.1) = true := by decide +kernel
def o_X4_lay : List Cond := [.fieldLink RX4 7 RX4 "row" "[I"] ++ wsX40
theorem oi_X4_lay : ∀ w ∈ o_X4_lay, w ∈ wGT := wGT_of _ [751, 762, 764, 766, 768, 770, 772, 774, 776, 778, 780, 782] (by decide +kernel) (by decide +kernel)
def ct_X4_lay : List (Instr × Nat) := []
abbrev rm_X4_lay : Room := { frames := 0, cells := 0, slots := 0, locals := 0 }
def b_X4_lay_0 : List wAn := [(.iconst 3, 1, 0, 0, 0), (.bipush 9, 2, 0, 0, 0), (.aload_n 0, 1, 0, 0, 0), (.getfield 7, 3, 0, 4, 0), (.iconst 2, 1, 0, 0, 0), (.iaload, 1, 1, 0, 0), (.imul, 1, 0, 0, 0), (.iadd, 1, 0, 0, 0), (.istore 8, 2, 0, 0, 0), (.aload_n 0, 1, 0, 0, 0), (.getfield 7, 3, 0, 4, 0), (.iload 8, 2, 0, 0, 0), (.iconst 0, 1, 0, 0, 0), (.iadd, 1, 0, 0, 0), (.iload_n 1, 1, 0, 0, 0), (.iastore, 1, 1, 0, 0), (.aload_n 0, 1, 0, 0, 0), (.getfield 7, 3, 0, 4, 0), (.iload 8, 2, 0, 0, 0), (.iconst 1, 1, 0, 0, 0), (.iadd, 1, 0, 0, 0), (.iload_n 2, 1, 0, 0, 0), (.iastore, 1, 1, 0, 0), (.aload_n 0, 1, 0, 0, 0), (.getfield 7, 3, 0, 4, 0), (.iload 8, 2, 0, 0, 0), (.iconst 2, 1, 0, 0, 0), (.iadd, 1, 0, 0, 0), (.iload_n 3, 1, 0, 0, 0), (.iastore, 1, 1, 0, 0), (.aload_n 0, 1, 0, 0, 0), (.getfield 7, 3, 0, 4, 0), (.iload 8, 2, 0, 0, 0), (.iconst 3, 1, 0, 0, 0), (.iadd, 1, 0, 0, 0), (.iload 4, 2, 0, 0, 0), (.iastore, 1, 1, 0, 0), (.aload_n 0, 1, 0, 0, 0), (.getfield 7, 3, 0, 4, 0), (.iload 8, 2, 0, 0, 0), (.iconst 4, 1, 0, 0, 0), (.iadd, 1, 0, 0, 0), (.iload 5, 2, 0, 0, 0), (.iastore, 1, 1, 0, 0), (.aload_n 0, 1, 0, 0, 0), (.getfield 7, 3, 0, 4, 0), (.iload 8, 2, 0, 0, 0), (.iconst 5, 1, 0, 0, 0), (.iadd, 1, 0, 0, 0), (.iload 6, 2, 0, 0, 0), (.iastore, 1, 1, 0, 0), (.aload_n 0, 1, 0, 0, 0), (.getfield 7, 3, 0, 4, 0), (.iload 8, 2, 0, 0, 0), (.bipush 6, 2, 0, 0, 0), (.iadd, 1, 0, 0, 0), (.iload 7, 2, 0, 0, 0), (.iastore, 1, 1, 0, 0), (.aload_n 0, 1, 0, 0, 0), (.getfield 7, 3, 0, 4, 0), (.iload 8, 2, 0, 0, 0), (.bipush 7, 2, 0, 0, 0), (.iadd, 1, 0, 0, 0), (.iconst 0, 1, 0, 0, 0), (.iastore, 1, 1, 0, 0), (.aload_n 0, 1, 0, 0, 0), (.getfield 7, 3, 0, 4, 0), (.iload 8, 2, 0, 0, 0), (.bipush 8, 2, 0, 0, 0), (.iadd, 1, 0, 0, 0), (.iconst 0, 1, 0, 0, 0), (.iastore, 1, 1, 0, 0), (.aload_n 0, 1, 0, 0, 0), (.getfield 7, 3, 0, 4, 0), (.iconst 2, 1, 0, 0, 0), (.dup2, 1, 0, 0, 0), (.iaload, 1, 1, 0, 0), (.iconst 1, 1, 0, 0, 0), (.iadd, 1, 0, 0, 0), (.iastore, 1, 1, 0, 0), (.return_, 1, 0, 0, 0)]
def q_X4_lay : List (Nat × List wAn) := [(0, b_X4_lay_0)]
abbrev ck_X4_lay : List wAn → Nat → Bool := w_ckB o_X4_lay RX4 vwCl 9 cX4_lay ct_X4_lay
theorem cq_X4_lay : q_X4_lay.all (fun q => ck_X4_lay q.2 q.1) = true := by decide +kernel
def o_X4_ferry : List Cond := [.fieldLink RX4 7 RX4 "row" "[I", .methodLink RX4 29 yX4_in, .static yX4_in, .initialized RX4, .code yX4_in cX4_in 3 (some .boolean), .methodLink RX4 44 yX4_isIsland, .static yX4_isIsland, .code yX4_isIsland cX4_isIsland 1 (some .boolean), .methodLink RX4 40 yX4_refused, .instanceMethod yX4_refused, .selects RX4 yX4_refused yX4_refused, .code yX4_refused cX4_refused 4 (some .boolean), .methodLink RX4 48 yX4_save, .instanceMethod yX4_save, .selects RX4 yX4_save yX4_save, .code yX4_save cX4_save 2 none, .methodLink RX4 51 yX4_lay, .instanceMethod yX4_lay, .selects RX4 yX4_lay yX4_lay, .code yX4_lay cX4_lay 9 none] ++ wsX40
theorem oi_X4_ferry : ∀ w ∈ o_X4_ferry, w ∈ wGT := wGT_of _ [751, 802, 803, 57, 804, 805, 806, 807, 794, 796, 29, 797, 808, 810, 30, 811, 812, 814, 31, 815, 762, 764, 766, 768, 770, 772, 774, 776, 778, 780, 782] (by decide +kernel) (by decide +kernel)
def ct_X4_ferry : List (Instr × Nat) := [(.invokestatic 29, 3), (.invokestatic 44, 1), (.invokevirtual 40, 4), (.invokevirtual 48, 1), (.invokevirtual 51, 8)]
abbrev rm_X4_ferry : Room := { frames := 2, cells := 0, slots := 0, locals := 42 }
def b_X4_ferry_0 : List wAn := [(.iload_n 1, 1, 0, 0, 0), (.iload_n 2, 1, 0, 0, 0), (.if_icmp .eq 52, 3, 54, 0, 0), (.iload_n 3, 1, 0, 0, 0), (.iconst 0, 1, 0, 0, 0), (.sipush 199, 3, 0, 0, 0), (.invokestatic 29, 3, 0, 1, 3), (.ifCond .eq 41, 3, 54, 0, 0), (.iload 4, 2, 0, 0, 0), (.iconst 1, 1, 0, 0, 0), (.sipush 199, 3, 0, 0, 0), (.invokestatic 29, 3, 0, 1, 3), (.ifCond .eq 29, 3, 54, 0, 0), (.iload 5, 2, 0, 0, 0), (.iconst 1, 1, 0, 0, 0), (.bipush 99, 2, 0, 0, 0), (.invokestatic 29, 3, 0, 1, 3), (.ifCond .eq 18, 3, 54, 0, 0), (.iload 6, 2, 0, 0, 0), (.iconst 0, 1, 0, 0, 0), (.bipush 99, 2, 0, 0, 0), (.invokestatic 29, 3, 0, 1, 3), (.ifCond .eq 7, 3, 54, 0, 0), (.iconst 1, 1, 0, 0, 0), (.goto 4, 3, 55, 0, 0)]
def b_X4_ferry_54 : List wAn := [(.iconst 0, 1, 0, 0, 0)]
def b_X4_ferry_55 : List wAn := [(.istore 7, 2, 0, 0, 0), (.aload_n 0, 1, 0, 0, 0), (.iload_n 1, 1, 0, 0, 0), (.invokestatic 44, 3, 1, 1, 1), (.ifCond .eq 10, 3, 72, 0, 0), (.iload_n 2, 1, 0, 0, 0), (.invokestatic 44, 3, 1, 1, 1), (.ifCond .ne 7, 3, 76, 0, 0)]
def b_X4_ferry_72 : List wAn := [(.iconst 1, 1, 0, 0, 0), (.goto 4, 3, 77, 0, 0)]
def b_X4_ferry_76 : List wAn := [(.iconst 0, 1, 0, 0, 0)]
def b_X4_ferry_77 : List wAn := [(.iload 7, 2, 0, 0, 0), (.ifCond .ne 7, 3, 86, 0, 0), (.iconst 1, 1, 0, 0, 0), (.goto 4, 3, 87, 0, 0)]
def b_X4_ferry_86 : List wAn := [(.iconst 0, 1, 0, 0, 0)]
def b_X4_ferry_87 : List wAn := [(.aload_n 0, 1, 0, 0, 0), (.getfield 7, 3, 0, 4, 0), (.iconst 2, 1, 0, 0, 0), (.iaload, 1, 1, 0, 0), (.bipush 14, 2, 0, 0, 0), (.if_icmp .ne 7, 3, 102, 0, 0), (.iconst 1, 1, 0, 0, 0), (.goto 4, 3, 103, 0, 0)]
def b_X4_ferry_102 : List wAn := [(.iconst 0, 1, 0, 0, 0)]
def b_X4_ferry_103 : List wAn := [(.invokevirtual 40, 3, 2, 0, 4), (.ifCond .eq 5, 3, 111, 0, 0), (.iconst 0, 1, 0, 0, 0), (.ireturn, 1, 0, 0, 0)]
def b_X4_ferry_111 : List wAn := [(.aload_n 0, 1, 0, 0, 0), (.invokevirtual 48, 3, 3, 0, 1), (.aload_n 0, 1, 0, 0, 0), (.iload_n 1, 1, 0, 0, 0), (.iload_n 2, 1, 0, 0, 0), (.iload_n 3, 1, 0, 0, 0), (.iload 4, 2, 0, 0, 0), (.iload 5, 2, 0, 0, 0), (.iload 6, 2, 0, 0, 0), (.iconst 0, 1, 0, 0, 0), (.invokevirtual 51, 3, 4, 0, 8), (.aload_n 0, 1, 0, 0, 0), (.getfield 7, 3, 0, 4, 0), (.iconst 2, 1, 0, 0, 0), (.iaload, 1, 1, 0, 0), (.iconst 1, 1, 0, 0, 0), (.isub, 1, 0, 0, 0), (.ireturn, 1, 0, 0, 0)]
def q_X4_ferry : List (Nat × List wAn) := [(0, b_X4_ferry_0), (54, b_X4_ferry_54), (55, b_X4_ferry_55), (72, b_X4_ferry_72), (76, b_X4_ferry_76), (77, b_X4_ferry_77), (86, b_X4_ferry_86), (87, b_X4_ferry_87), (102, b_X4_ferry_102), (103, b_X4_ferry_103), (111, b_X4_ferry_111)]
abbrev ck_X4_ferry : List wAn → Nat → Bool := w_ckB o_X4_ferry RX4 vwCl 8 cX4_ferry ct_X4_ferry
theorem cq_X4_ferry : q_X4_ferry.all (fun q => ck_X4_ferry q.2 q.1) = true := by decide +kernel
def o_X4_drop : List Cond := [.fieldLink RX4 7 RX4 "row" "[I", .methodLink RX4 55 yX4_isFerry, .instanceMethod yX4_isFerry, .selects RX4 yX4_isFerry yX4_isFerry, .initialized RX4, .code yX4_isFerry cX4_isFerry 2 (some .boolean), .methodLink RX4 40 yX4_refused, .instanceMethod yX4_refused, .selects RX4 yX4_refused yX4_refused, .code yX4_refused cX4_refused 4 (some .boolean), .methodLink RX4 48 yX4_save, .instanceMethod yX4_save, .selects RX4 yX4_save yX4_save, .code yX4_save cX4_save 2 none] ++ wsX40
theorem oi_X4_drop : ∀ w ∈ o_X4_drop, w ∈ wGT := wGT_of _ [751, 820, 822, 32, 57, 823, 794, 796, 29, 797, 808, 810, 30, 811, 762, 764, 766, 768, 770, 772, 774, 776, 778, 780, 782] (by decide +kernel) (by decide +kernel)
def ct_X4_drop : List (Instr × Nat) := [(.invokevirtual 55, 2), (.invokevirtual 40, 4), (.invokevirtual 48, 1)]
abbrev rm_X4_drop : Room := { frames := 2, cells := 0, slots := 0, locals := 43 }
def b_X4_drop_0 : List wAn := [(.aload_n 0, 1, 0, 0, 0), (.aload_n 0, 1, 0, 0, 0), (.iload_n 1, 1, 0, 0, 0), (.invokevirtual 55, 3, 0, 0, 2), (.ifCond .ne 7, 3, 13, 0, 0), (.iconst 1, 1, 0, 0, 0), (.goto 4, 3, 14, 0, 0)]
def b_X4_drop_13 : List wAn := [(.iconst 0, 1, 0, 0, 0)]
def b_X4_drop_14 : List wAn := [(.iconst 0, 1, 0, 0, 0), (.iconst 0, 1, 0, 0, 0), (.invokevirtual 40, 3, 1, 0, 4), (.ifCond .eq 5, 3, 24, 0, 0), (.iconst 0, 1, 0, 0, 0), (.ireturn, 1, 0, 0, 0)]
def b_X4_drop_24 : List wAn := [(.aload_n 0, 1, 0, 0, 0), (.invokevirtual 48, 3, 2, 0, 1), (.aload_n 0, 1, 0, 0, 0), (.getfield 7, 3, 0, 4, 0), (.iconst 2, 1, 0, 0, 0), (.dup2, 1, 0, 0, 0), (.iaload, 1, 1, 0, 0), (.iconst 1, 1, 0, 0, 0), (.isub, 1, 0, 0, 0), (.iastore, 1, 1, 0, 0), (.iconst 3, 1, 0, 0, 0), (.bipush 9, 2, 0, 0, 0), (.iload_n 1, 1, 0, 0, 0), (.imul, 1, 0, 0, 0), (.iadd, 1, 0, 0, 0), (.istore_n 2, 1, 0, 0, 0)]
def b_X4_drop_45 : List wAn := [(.iload_n 2, 1, 0, 0, 0), (.iconst 3, 1, 0, 0, 0), (.bipush 9, 2, 0, 0, 0), (.aload_n 0, 1, 0, 0, 0), (.getfield 7, 3, 0, 4, 0), (.iconst 2, 1, 0, 0, 0), (.iaload, 1, 1, 0, 0), (.imul, 1, 0, 0, 0), (.iadd, 1, 0, 0, 0), (.if_icmp .ge 24, 3, 81, 0, 0), (.aload_n 0, 1, 0, 0, 0), (.getfield 7, 3, 0, 4, 0), (.iload_n 2, 1, 0, 0, 0), (.aload_n 0, 1, 0, 0, 0), (.getfield 7, 3, 0, 4, 0), (.iload_n 2, 1, 0, 0, 0), (.bipush 9, 2, 0, 0, 0), (.iadd, 1, 0, 0, 0), (.iaload, 1, 1, 0, 0), (.iastore, 1, 1, 0, 0), (.iinc 2 1, 3, 0, 0, 0), (.goto (-33), 3, 45, 0, 0)]
def b_X4_drop_81 : List wAn := [(.iconst 0, 1, 0, 0, 0), (.istore_n 2, 1, 0, 0, 0)]
def b_X4_drop_83 : List wAn := [(.iload_n 2, 1, 0, 0, 0), (.bipush 9, 2, 0, 0, 0), (.if_icmp .ge 28, 3, 114, 0, 0), (.aload_n 0, 1, 0, 0, 0), (.getfield 7, 3, 0, 4, 0), (.iconst 3, 1, 0, 0, 0), (.bipush 9, 2, 0, 0, 0), (.aload_n 0, 1, 0, 0, 0), (.getfield 7, 3, 0, 4, 0), (.iconst 2, 1, 0, 0, 0), (.iaload, 1, 1, 0, 0), (.imul, 1, 0, 0, 0), (.iadd, 1, 0, 0, 0), (.iload_n 2, 1, 0, 0, 0), (.iadd, 1, 0, 0, 0), (.iconst 0, 1, 0, 0, 0), (.iastore, 1, 1, 0, 0), (.iinc 2 1, 3, 0, 0, 0), (.goto (-28), 3, 83, 0, 0)]
def b_X4_drop_114 : List wAn := [(.aload_n 0, 1, 0, 0, 0), (.getfield 7, 3, 0, 4, 0), (.iconst 2, 1, 0, 0, 0), (.iaload, 1, 1, 0, 0), (.ireturn, 1, 0, 0, 0)]
def q_X4_drop : List (Nat × List wAn) := [(0, b_X4_drop_0), (13, b_X4_drop_13), (14, b_X4_drop_14), (24, b_X4_drop_24), (45, b_X4_drop_45), (81, b_X4_drop_81), (83, b_X4_drop_83), (114, b_X4_drop_114)]
abbrev ck_X4_drop : List wAn → Nat → Bool := w_ckB o_X4_drop RX4 vwCl 3 cX4_drop ct_X4_drop
theorem cq_X4_drop : q_X4_drop.all (fun q => ck_X4_drop q.2 q.1) = true := by decide +kernel
def o_X4_change : List Cond := [.fieldLink RX4 7 RX4 "row" "[I", .methodLink RX4 48 yX4_save, .instanceMethod yX4_save, .selects RX4 yX4_save yX4_save, .initialized RX4, .code yX4_save cX4_save 2 none] ++ wsX40
theorem oi_X4_change : ∀ w ∈ o_X4_change, w ∈ wGT := wGT_of _ [751, 808, 810, 30, 57, 811, 762, 764, 766, 768, 770, 772, 774, 776, 778, 780, 782] (by decide +kernel) (by decide +kernel)
def ct_X4_change : List (Instr × Nat) := [(.invokevirtual 48, 1)]
abbrev rm_X4_change : Room := { frames := 1, cells := 0, slots := 0, locals := 21 }
def b_X4_change_0 : List wAn := [(.aload_n 0, 1, 0, 0, 0), (.getfield 7, 3, 0, 4, 0), (.iload_n 1, 1, 0, 0, 0), (.iaload, 1, 1, 0, 0), (.istore_n 3, 1, 0, 0, 0), (.aload_n 0, 1, 0, 0, 0), (.invokevirtual 48, 3, 0, 0, 1), (.aload_n 0, 1, 0, 0, 0), (.getfield 7, 3, 0, 4, 0), (.iload_n 1, 1, 0, 0, 0), (.iload_n 2, 1, 0, 0, 0), (.iastore, 1, 1, 0, 0), (.iload_n 3, 1, 0, 0, 0), (.ireturn, 1, 0, 0, 0)]
def q_X4_change : List (Nat × List wAn) := [(0, b_X4_change_0)]
abbrev ck_X4_change : List wAn → Nat → Bool := w_ckB o_X4_change RX4 vwCl 4 cX4_change ct_X4_change
theorem cq_X4_change : q_X4_change.all (fun q => ck_X4_change q.2 q.1) = true := by decide +kernel
def o_X4_kind : List Cond := [.methodLink RX4 55 yX4_isFerry, .instanceMethod yX4_isFerry, .selects RX4 yX4_isFerry yX4_isFerry, .initialized RX4, .code yX4_isFerry cX4_isFerry 2 (some .boolean), .methodLink RX4 29 yX4_in, .static yX4_in, .code yX4_in cX4_in 3 (some .boolean), .methodLink RX4 40 yX4_refused, .instanceMethod yX4_refused, .selects RX4 yX4_refused yX4_refused, .code yX4_refused cX4_refused 4 (some .boolean), .methodLink RX4 58 yX4_change, .instanceMethod yX4_change, .selects RX4 yX4_change yX4_change, .code yX4_change cX4_change 4 (some .int)]
theorem oi_X4_kind : ∀ w ∈ o_X4_kind, w ∈ wGT := wGT_of _ [820, 822, 32, 57, 823, 802, 803, 804, 794, 796, 29, 797, 828, 830, 33, 831] (by decide +kernel) (by decide +kernel)
def ct_X4_kind : List (Instr × Nat) := [(.invokevirtual 55, 2), (.invokestatic 29, 3), (.invokevirtual 40, 4), (.invokevirtual 58, 3)]
abbrev rm_X4_kind : Room := { frames := 2, cells := 0, slots := 0, locals := 44 }
def b_X4_kind_0 : List wAn := [(.aload_n 0, 1, 0, 0, 0), (.aload_n 0, 1, 0, 0, 0), (.iload_n 1, 1, 0, 0, 0), (.invokevirtual 55, 3, 0, 0, 2), (.ifCond .ne 7, 3, 13, 0, 0), (.iconst 1, 1, 0, 0, 0), (.goto 4, 3, 14, 0, 0)]
def b_X4_kind_13 : List wAn := [(.iconst 0, 1, 0, 0, 0)]
def b_X4_kind_14 : List wAn := [(.iload_n 2, 1, 0, 0, 0), (.iconst 0, 1, 0, 0, 0), (.iconst 2, 1, 0, 0, 0), (.invokestatic 29, 3, 1, 1, 3), (.ifCond .ne 7, 3, 27, 0, 0), (.iconst 1, 1, 0, 0, 0), (.goto 4, 3, 28, 0, 0)]
def b_X4_kind_27 : List wAn := [(.iconst 0, 1, 0, 0, 0)]
def b_X4_kind_28 : List wAn := [(.iconst 0, 1, 0, 0, 0), (.invokevirtual 40, 3, 2, 0, 4), (.ifCond .eq 5, 3, 37, 0, 0), (.iconst 0, 1, 0, 0, 0), (.ireturn, 1, 0, 0, 0)]
def b_X4_kind_37 : List wAn := [(.aload_n 0, 1, 0, 0, 0), (.iconst 3, 1, 0, 0, 0), (.bipush 9, 2, 0, 0, 0), (.iload_n 1, 1, 0, 0, 0), (.imul, 1, 0, 0, 0), (.iadd, 1, 0, 0, 0), (.bipush 6, 2, 0, 0, 0), (.iadd, 1, 0, 0, 0), (.iload_n 2, 1, 0, 0, 0), (.invokevirtual 58, 3, 3, 0, 3), (.ireturn, 1, 0, 0, 0)]
def q_X4_kind : List (Nat × List wAn) := [(0, b_X4_kind_0), (13, b_X4_kind_13), (14, b_X4_kind_14), (27, b_X4_kind_27), (28, b_X4_kind_28), (37, b_X4_kind_37)]
abbrev ck_X4_kind : List wAn → Nat → Bool := w_ckB o_X4_kind RX4 vwCl 3 cX4_kind ct_X4_kind
theorem cq_X4_kind : q_X4_kind.all (fun q => ck_X4_kind q.2 q.1) = true := by decide +kernel
def o_X4_clock : List Cond := [.methodLink RX4 55 yX4_isFerry, .instanceMethod yX4_isFerry, .selects RX4 yX4_isFerry yX4_isFerry, .initialized RX4, .code yX4_isFerry cX4_isFerry 2 (some .boolean), .methodLink RX4 29 yX4_in, .static yX4_in, .code yX4_in cX4_in 3 (some .boolean), .methodLink RX4 40 yX4_refused, .instanceMethod yX4_refused, .selects RX4 yX4_refused yX4_refused, .code yX4_refused cX4_refused 4 (some .boolean), .methodLink RX4 58 yX4_change, .instanceMethod yX4_change, .selects RX4 yX4_change yX4_change, .code yX4_change cX4_change 4 (some .int)]
theorem oi_X4_clock : ∀ w ∈ o_X4_clock, w ∈ wGT := wGT_of _ [820, 822, 32, 57, 823, 802, 803, 804, 794, 796, 29, 797, 828, 830, 33, 831] (by decide +kernel) (by decide +kernel)
def ct_X4_clock : List (Instr × Nat) := [(.invokevirtual 55, 2), (.invokestatic 29, 3), (.invokevirtual 40, 4), (.invokevirtual 58, 3)]
abbrev rm_X4_clock : Room := { frames := 2, cells := 0, slots := 0, locals := 44 }
def b_X4_clock_0 : List wAn := [(.aload_n 0, 1, 0, 0, 0), (.aload_n 0, 1, 0, 0, 0), (.iload_n 1, 1, 0, 0, 0), (.invokevirtual 55, 3, 0, 0, 2), (.ifCond .ne 7, 3, 13, 0, 0), (.iconst 1, 1, 0, 0, 0), (.goto 4, 3, 14, 0, 0)]
def b_X4_clock_13 : List wAn := [(.iconst 0, 1, 0, 0, 0)]
def b_X4_clock_14 : List wAn := [(.iload_n 2, 1, 0, 0, 0), (.iconst 0, 1, 0, 0, 0), (.bipush 59, 2, 0, 0, 0), (.invokestatic 29, 3, 1, 1, 3), (.ifCond .ne 7, 3, 28, 0, 0), (.iconst 1, 1, 0, 0, 0), (.goto 4, 3, 29, 0, 0)]
def b_X4_clock_28 : List wAn := [(.iconst 0, 1, 0, 0, 0)]
def b_X4_clock_29 : List wAn := [(.iconst 0, 1, 0, 0, 0), (.invokevirtual 40, 3, 2, 0, 4), (.ifCond .eq 5, 3, 38, 0, 0), (.iconst 0, 1, 0, 0, 0), (.ireturn, 1, 0, 0, 0)]
def b_X4_clock_38 : List wAn := [(.aload_n 0, 1, 0, 0, 0), (.iconst 3, 1, 0, 0, 0), (.bipush 9, 2, 0, 0, 0), (.iload_n 1, 1, 0, 0, 0), (.imul, 1, 0, 0, 0), (.iadd, 1, 0, 0, 0), (.bipush 7, 2, 0, 0, 0), (.iadd, 1, 0, 0, 0), (.iload_n 2, 1, 0, 0, 0), (.invokevirtual 58, 3, 3, 0, 3), (.ireturn, 1, 0, 0, 0)]
def q_X4_clock : List (Nat × List wAn) := [(0, b_X4_clock_0), (13, b_X4_clock_13), (14, b_X4_clock_14), (28, b_X4_clock_28), (29, b_X4_clock_29), (38, b_X4_clock_38)]
abbrev ck_X4_clock : List wAn → Nat → Bool := w_ckB o_X4_clock RX4 vwCl 3 cX4_clock ct_X4_clock
theorem cq_X4_clock : q_X4_clock.all (fun q => ck_X4_clock q.2 q.1) = true := by decide +kernel
def o_X4_setting : List Cond := [.fieldLink RX4 7 RX4 "row" "[I", .methodLink RX4 29 yX4_in, .static yX4_in, .initialized RX4, .code yX4_in cX4_in 3 (some .boolean), .methodLink RX4 40 yX4_refused, .instanceMethod yX4_refused, .selects RX4 yX4_refused yX4_refused, .code yX4_refused cX4_refused 4 (some .boolean)] ++ wsX40
theorem oi_X4_setting : ∀ w ∈ o_X4_setting, w ∈ wGT := wGT_of _ [751, 802, 803, 57, 804, 794, 796, 29, 797, 762, 764, 766, 768, 770, 772, 774, 776, 778, 780, 782] (by decide +kernel) (by decide +kernel)
def ct_X4_setting : List (Instr × Nat) := [(.invokestatic 29, 3), (.invokevirtual 40, 4)]
abbrev rm_X4_setting : Room := { frames := 1, cells := 0, slots := 0, locals := 23 }
def b_X4_setting_0 : List wAn := [(.aload_n 0, 1, 0, 0, 0), (.iload_n 1, 1, 0, 0, 0), (.iconst 0, 1, 0, 0, 0), (.iconst 1, 1, 0, 0, 0), (.invokestatic 29, 3, 0, 1, 3), (.ifCond .ne 7, 3, 14, 0, 0), (.iconst 1, 1, 0, 0, 0), (.goto 4, 3, 15, 0, 0)]
def b_X4_setting_14 : List wAn := [(.iconst 0, 1, 0, 0, 0)]
def b_X4_setting_15 : List wAn := [(.iconst 0, 1, 0, 0, 0), (.iconst 0, 1, 0, 0, 0), (.invokevirtual 40, 3, 1, 0, 4), (.ifCond .eq 7, 3, 27, 0, 0), (.iconst 0, 1, 0, 0, 0), (.goto 9, 3, 33, 0, 0)]
def b_X4_setting_27 : List wAn := [(.aload_n 0, 1, 0, 0, 0), (.getfield 7, 3, 0, 4, 0), (.iload_n 1, 1, 0, 0, 0), (.iaload, 1, 1, 0, 0)]
def b_X4_setting_33 : List wAn := [(.ireturn, 1, 0, 0, 0)]
def q_X4_setting : List (Nat × List wAn) := [(0, b_X4_setting_0), (14, b_X4_setting_14), (15, b_X4_setting_15), (27, b_X4_setting_27), (33, b_X4_setting_33)]
abbrev ck_X4_setting : List wAn → Nat → Bool := w_ckB o_X4_setting RX4 vwCl 2 cX4_setting ct_X4_setting
theorem cq_X4_setting : q_X4_setting.all (fun q => ck_X4_setting q.2 q.1) = true := by decide +kernel
def o_X4_set : List Cond := [.methodLink RX4 29 yX4_in, .static yX4_in, .initialized RX4, .code yX4_in cX4_in 3 (some .boolean), .methodLink RX4 40 yX4_refused, .instanceMethod yX4_refused, .selects RX4 yX4_refused yX4_refused, .code yX4_refused cX4_refused 4 (some .boolean), .methodLink RX4 58 yX4_change, .instanceMethod yX4_change, .selects RX4 yX4_change yX4_change, .code yX4_change cX4_change 4 (some .int)]
theorem oi_X4_set : ∀ w ∈ o_X4_set, w ∈ wGT := wGT_of _ [802, 803, 57, 804, 794, 796, 29, 797, 828, 830, 33, 831] (by decide +kernel) (by decide +kernel)
def ct_X4_set : List (Instr × Nat) := [(.invokestatic 29, 3), (.invokevirtual 40, 4), (.invokevirtual 58, 3)]
abbrev rm_X4_set : Room := { frames := 2, cells := 0, slots := 0, locals := 44 }
def b_X4_set_0 : List wAn := [(.aload_n 0, 1, 0, 0, 0), (.iload_n 1, 1, 0, 0, 0), (.iconst 0, 1, 0, 0, 0), (.iconst 1, 1, 0, 0, 0), (.invokestatic 29, 3, 0, 1, 3), (.ifCond .ne 7, 3, 14, 0, 0), (.iconst 1, 1, 0, 0, 0), (.goto 4, 3, 15, 0, 0)]
def b_X4_set_14 : List wAn := [(.iconst 0, 1, 0, 0, 0)]
def b_X4_set_15 : List wAn := [(.iload_n 2, 1, 0, 0, 0), (.iconst 0, 1, 0, 0, 0), (.iload_n 1, 1, 0, 0, 0), (.ifCond .ne 9, 3, 27, 0, 0), (.sipush 719, 3, 0, 0, 0), (.goto 5, 3, 29, 0, 0)]
def b_X4_set_27 : List wAn := [(.bipush 60, 2, 0, 0, 0)]
def b_X4_set_29 : List wAn := [(.invokestatic 29, 3, 0, 1, 3), (.ifCond .ne 7, 3, 39, 0, 0), (.iconst 1, 1, 0, 0, 0), (.goto 4, 3, 40, 0, 0)]
def b_X4_set_39 : List wAn := [(.iconst 0, 1, 0, 0, 0)]
def b_X4_set_40 : List wAn := [(.iconst 0, 1, 0, 0, 0), (.invokevirtual 40, 3, 1, 0, 4), (.ifCond .eq 5, 3, 49, 0, 0), (.iconst 0, 1, 0, 0, 0), (.ireturn, 1, 0, 0, 0)]
def b_X4_set_49 : List wAn := [(.aload_n 0, 1, 0, 0, 0), (.iload_n 1, 1, 0, 0, 0), (.iload_n 2, 1, 0, 0, 0), (.invokevirtual 58, 3, 2, 0, 3), (.ireturn, 1, 0, 0, 0)]
def q_X4_set : List (Nat × List wAn) := [(0, b_X4_set_0), (14, b_X4_set_14), (15, b_X4_set_15), (27, b_X4_set_27), (29, b_X4_set_29), (39, b_X4_set_39), (40, b_X4_set_40), (49, b_X4_set_49)]
abbrev ck_X4_set : List wAn → Nat → Bool := w_ckB o_X4_set RX4 vwCl 3 cX4_set ct_X4_set
theorem cq_X4_set : q_X4_set.all (fun q => ck_X4_set q.2 q.1) = true := by decide +kernel
def o_X4_tideLets : List Cond := [.fieldLink RX4 7 RX4 "row" "[I"] ++ wsX40
theorem oi_X4_tideLets : ∀ w ∈ o_X4_tideLets, w ∈ wGT := wGT_of _ [751, 762, 764, 766, 768, 770, 772, 774, 776, 778, 780, 782] (by decide +kernel) (by decide +kernel)
def ct_X4_tideLets : List (Instr × Nat) := []
abbrev rm_X4_tideLets : Room := { frames := 0, cells := 0, slots := 0, locals := 0 }
def b_X4_tideLets_0 : List wAn := [(.iload_n 2, 1, 0, 0, 0), (.aload_n 0, 1, 0, 0, 0), (.getfield 7, 3, 0, 4, 0), (.iconst 0, 1, 0, 0, 0), (.iaload, 1, 1, 0, 0), (.iadd, 1, 0, 0, 0), (.sipush 720, 3, 0, 0, 0), (.irem, 1, 0, 0, 0), (.sipush 360, 3, 0, 0, 0), (.if_icmp .ge 7, 3, 22, 0, 0), (.iconst 1, 1, 0, 0, 0), (.goto 4, 3, 23, 0, 0)]
def b_X4_tideLets_22 : List wAn := [(.iconst 0, 1, 0, 0, 0)]
def b_X4_tideLets_23 : List wAn := [(.istore_n 3, 1, 0, 0, 0), (.iload_n 1, 1, 0, 0, 0), (.ifCond .eq 21, 3, 46, 0, 0), (.iload_n 1, 1, 0, 0, 0), (.iconst 1, 1, 0, 0, 0), (.if_icmp .ne 7, 3, 37, 0, 0), (.iload_n 3, 1, 0, 0, 0), (.ifCond .ne 12, 3, 46, 0, 0)]
def b_X4_tideLets_37 : List wAn := [(.iload_n 1, 1, 0, 0, 0), (.iconst 2, 1, 0, 0, 0), (.if_icmp .ne 11, 3, 50, 0, 0), (.iload_n 3, 1, 0, 0, 0), (.ifCond .ne 7, 3, 50, 0, 0)]
def b_X4_tideLets_46 : List wAn := [(.iconst 1, 1, 0, 0, 0), (.goto 4, 3, 51, 0, 0)]
def b_X4_tideLets_50 : List wAn := [(.iconst 0, 1, 0, 0, 0)]
def b_X4_tideLets_51 : List wAn := [(.ireturn, 1, 0, 0, 0)]
def q_X4_tideLets : List (Nat × List wAn) := [(0, b_X4_tideLets_0), (22, b_X4_tideLets_22), (23, b_X4_tideLets_23), (37, b_X4_tideLets_37), (46, b_X4_tideLets_46), (50, b_X4_tideLets_50), (51, b_X4_tideLets_51)]
abbrev ck_X4_tideLets : List wAn → Nat → Bool := w_ckB o_X4_tideLets RX4 vwCl 4 cX4_tideLets ct_X4_tideLets
theorem cq_X4_tideLets : q_X4_tideLets.all (fun q => ck_X4_tideLets q.2 q.1) = true := by decide +kernel
def o_X4_leavesAt : List Cond := [.methodLink RX4 62 yX4_of, .instanceMethod yX4_of, .selects RX4 yX4_of yX4_of, .initialized RX4, .code yX4_of cX4_of 3 (some .int), .methodLink RX4 65 yX4_tideLets, .instanceMethod yX4_tideLets, .selects RX4 yX4_tideLets yX4_tideLets, .code yX4_tideLets cX4_tideLets 4 (some .boolean)]
theorem oi_X4_leavesAt : ∀ w ∈ o_X4_leavesAt, w ∈ wGT := wGT_of _ [856, 858, 36, 57, 859, 860, 862, 37, 863] (by decide +kernel) (by decide +kernel)
def ct_X4_leavesAt : List (Instr × Nat) := [(.invokevirtual 62, 3), (.invokevirtual 65, 3)]
abbrev rm_X4_leavesAt : Room := { frames := 1, cells := 0, slots := 0, locals := 23 }
def b_X4_leavesAt_0 : List wAn := [(.iload_n 2, 1, 0, 0, 0), (.aload_n 0, 1, 0, 0, 0), (.iload_n 1, 1, 0, 0, 0), (.iconst 2, 1, 0, 0, 0), (.invokevirtual 62, 3, 0, 0, 3), (.isub, 1, 0, 0, 0), (.istore_n 3, 1, 0, 0, 0), (.iload_n 2, 1, 0, 0, 0), (.sipush 1439, 3, 0, 0, 0), (.if_icmp .gt 37, 3, 50, 0, 0), (.iload_n 3, 1, 0, 0, 0), (.ifCond .lt 33, 3, 50, 0, 0), (.iload_n 3, 1, 0, 0, 0), (.aload_n 0, 1, 0, 0, 0), (.iload_n 1, 1, 0, 0, 0), (.iconst 3, 1, 0, 0, 0), (.invokevirtual 62, 3, 0, 0, 3), (.irem, 1, 0, 0, 0), (.ifCond .ne 22, 3, 50, 0, 0), (.aload_n 0, 1, 0, 0, 0), (.aload_n 0, 1, 0, 0, 0), (.iload_n 1, 1, 0, 0, 0), (.bipush 6, 2, 0, 0, 0), (.invokevirtual 62, 3, 0, 0, 3), (.iload_n 2, 1, 0, 0, 0), (.invokevirtual 65, 3, 1, 0, 3), (.ifCond .eq 7, 3, 50, 0, 0), (.iconst 1, 1, 0, 0, 0), (.goto 4, 3, 51, 0, 0)]
def b_X4_leavesAt_50 : List wAn := [(.iconst 0, 1, 0, 0, 0)]
def b_X4_leavesAt_51 : List wAn := [(.ireturn, 1, 0, 0, 0)]
def q_X4_leavesAt : List (Nat × List wAn) := [(0, b_X4_leavesAt_0), (50, b_X4_leavesAt_50), (51, b_X4_leavesAt_51)]
abbrev ck_X4_leavesAt : List wAn → Nat → Bool := w_ckB o_X4_leavesAt RX4 vwCl 4 cX4_leavesAt ct_X4_leavesAt
theorem cq_X4_leavesAt : q_X4_leavesAt.all (fun q => ck_X4_leavesAt q.2 q.1) = true := by decide +kernel
def o_X4_nextLeaving : List Cond := [.methodLink RX4 69 yX4_leavesAt, .instanceMethod yX4_leavesAt, .selects RX4 yX4_leavesAt yX4_leavesAt, .initialized RX4, .code yX4_leavesAt cX4_leavesAt 4 (some .boolean)]
theorem oi_X4_nextLeaving : ∀ w ∈ o_X4_nextLeaving, w ∈ wGT := wGT_of _ [852, 854, 35, 57, 855] (by decide +kernel) (by decide +kernel)
def ct_X4_nextLeaving : List (Instr × Nat) := [(.invokevirtual 69, 3)]
abbrev rm_X4_nextLeaving : Room := { frames := 2, cells := 0, slots := 0, locals := 46 }
def b_X4_nextLeaving_0 : List wAn := [(.iload_n 2, 1, 0, 0, 0), (.istore_n 3, 1, 0, 0, 0)]
def b_X4_nextLeaving_2 : List wAn := [(.iload_n 3, 1, 0, 0, 0), (.sipush 1439, 3, 0, 0, 0), (.if_icmp .gt 20, 3, 26, 0, 0), (.aload_n 0, 1, 0, 0, 0), (.iload_n 1, 1, 0, 0, 0), (.iload_n 3, 1, 0, 0, 0), (.invokevirtual 69, 3, 0, 0, 3), (.ifCond .eq 5, 3, 20, 0, 0), (.iload_n 3, 1, 0, 0, 0), (.ireturn, 1, 0, 0, 0)]
def b_X4_nextLeaving_20 : List wAn := [(.iinc 3 1, 3, 0, 0, 0), (.goto (-21), 3, 2, 0, 0)]
def b_X4_nextLeaving_26 : List wAn := [(.iconst (-1), 1, 0, 0, 0), (.ireturn, 1, 0, 0, 0)]
def q_X4_nextLeaving : List (Nat × List wAn) := [(0, b_X4_nextLeaving_0), (2, b_X4_nextLeaving_2), (20, b_X4_nextLeaving_20), (26, b_X4_nextLeaving_26)]
abbrev ck_X4_nextLeaving : List wAn → Nat → Bool := w_ckB o_X4_nextLeaving RX4 vwCl 4 cX4_nextLeaving ct_X4_nextLeaving
theorem cq_X4_nextLeaving : q_X4_nextLeaving.all (fun q => ck_X4_nextLeaving q.2 q.1) = true := by decide +kernel
def o_X4_price : List Cond := [.fieldLink RX4 7 RX4 "row" "[I", .methodLink RX4 62 yX4_of, .instanceMethod yX4_of, .selects RX4 yX4_of yX4_of, .initialized RX4, .code yX4_of cX4_of 3 (some .int)] ++ wsX40
theorem oi_X4_price : ∀ w ∈ o_X4_price, w ∈ wGT := wGT_of _ [751, 856, 858, 36, 57, 859, 762, 764, 766, 768, 770, 772, 774, 776, 778, 780, 782] (by decide +kernel) (by decide +kernel)
def ct_X4_price : List (Instr × Nat) := [(.invokevirtual 62, 3)]
abbrev rm_X4_price : Room := { frames := 1, cells := 0, slots := 0, locals := 22 }
def b_X4_price_0 : List wAn := [(.iload_n 2, 1, 0, 0, 0), (.aload_n 0, 1, 0, 0, 0), (.iload_n 1, 1, 0, 0, 0), (.bipush 7, 2, 0, 0, 0), (.invokevirtual 62, 3, 0, 0, 3), (.iadd, 1, 0, 0, 0), (.bipush 60, 2, 0, 0, 0), (.irem, 1, 0, 0, 0), (.aload_n 0, 1, 0, 0, 0), (.getfield 7, 3, 0, 4, 0), (.iconst 1, 1, 0, 0, 0), (.iaload, 1, 1, 0, 0), (.if_icmp .ge 14, 3, 32, 0, 0), (.iconst 2, 1, 0, 0, 0), (.aload_n 0, 1, 0, 0, 0), (.iload_n 1, 1, 0, 0, 0), (.iconst 5, 1, 0, 0, 0), (.invokevirtual 62, 3, 0, 0, 3), (.imul, 1, 0, 0, 0), (.goto 9, 3, 38, 0, 0)]
def b_X4_price_32 : List wAn := [(.aload_n 0, 1, 0, 0, 0), (.iload_n 1, 1, 0, 0, 0), (.iconst 5, 1, 0, 0, 0), (.invokevirtual 62, 3, 0, 0, 3)]
def b_X4_price_38 : List wAn := [(.ireturn, 1, 0, 0, 0)]
def q_X4_price : List (Nat × List wAn) := [(0, b_X4_price_0), (32, b_X4_price_32), (38, b_X4_price_38)]
abbrev ck_X4_price : List wAn → Nat → Bool := w_ckB o_X4_price RX4 vwCl 3 cX4_price ct_X4_price
theorem cq_X4_price : q_X4_price.all (fun q => ck_X4_price q.2 q.1) = true := by decide +kernel
def o_X4_leaves : List Cond := [.methodLink RX4 55 yX4_isFerry, .instanceMethod yX4_isFerry, .selects RX4 yX4_isFerry yX4_isFerry, .initialized RX4, .code yX4_isFerry cX4_isFerry 2 (some .boolean), .methodLink RX4 29 yX4_in, .static yX4_in, .code yX4_in cX4_in 3 (some .boolean), .methodLink RX4 40 yX4_refused, .instanceMethod yX4_refused, .selects RX4 yX4_refused yX4_refused, .code yX4_refused cX4_refused 4 (some .boolean), .methodLink RX4 72 yX4_nextLeaving, .instanceMethod yX4_nextLeaving, .selects RX4 yX4_nextLeaving yX4_nextLeaving, .code yX4_nextLeaving cX4_nextLeaving 4 (some .int)]
theorem oi_X4_leaves : ∀ w ∈ o_X4_leaves, w ∈ wGT := wGT_of _ [820, 822, 32, 57, 823, 802, 803, 804, 794, 796, 29, 797, 848, 850, 34, 851] (by decide +kernel) (by decide +kernel)
def ct_X4_leaves : List (Instr × Nat) := [(.invokevirtual 55, 2), (.invokestatic 29, 3), (.invokevirtual 40, 4), (.invokevirtual 72, 3)]
abbrev rm_X4_leaves : Room := { frames := 3, cells := 0, slots := 0, locals := 69 }
def b_X4_leaves_0 : List wAn := [(.aload_n 0, 1, 0, 0, 0), (.aload_n 0, 1, 0, 0, 0), (.iload_n 1, 1, 0, 0, 0), (.invokevirtual 55, 3, 0, 0, 2), (.ifCond .ne 7, 3, 13, 0, 0), (.iconst 1, 1, 0, 0, 0), (.goto 4, 3, 14, 0, 0)]
def b_X4_leaves_13 : List wAn := [(.iconst 0, 1, 0, 0, 0)]
def b_X4_leaves_14 : List wAn := [(.iload_n 2, 1, 0, 0, 0), (.iconst 0, 1, 0, 0, 0), (.sipush 1539, 3, 0, 0, 0), (.invokestatic 29, 3, 1, 1, 3), (.ifCond .ne 7, 3, 29, 0, 0), (.iconst 1, 1, 0, 0, 0), (.goto 4, 3, 30, 0, 0)]
def b_X4_leaves_29 : List wAn := [(.iconst 0, 1, 0, 0, 0)]
def b_X4_leaves_30 : List wAn := [(.iconst 0, 1, 0, 0, 0), (.invokevirtual 40, 3, 2, 0, 4), (.ifCond .eq 7, 3, 41, 0, 0), (.iconst 0, 1, 0, 0, 0), (.goto 9, 3, 47, 0, 0)]
def b_X4_leaves_41 : List wAn := [(.aload_n 0, 1, 0, 0, 0), (.iload_n 1, 1, 0, 0, 0), (.iload_n 2, 1, 0, 0, 0), (.invokevirtual 72, 3, 3, 0, 3)]
def b_X4_leaves_47 : List wAn := [(.ireturn, 1, 0, 0, 0)]
def q_X4_leaves : List (Nat × List wAn) := [(0, b_X4_leaves_0), (13, b_X4_leaves_13), (14, b_X4_leaves_14), (29, b_X4_leaves_29), (30, b_X4_leaves_30), (41, b_X4_leaves_41), (47, b_X4_leaves_47)]
abbrev ck_X4_leaves : List wAn → Nat → Bool := w_ckB o_X4_leaves RX4 vwCl 3 cX4_leaves ct_X4_leaves
theorem cq_X4_leaves : q_X4_leaves.all (fun q => ck_X4_leaves q.2 q.1) = true := by decide +kernel
def o_X4_costs : List Cond := [.methodLink RX4 55 yX4_isFerry, .instanceMethod yX4_isFerry, .selects RX4 yX4_isFerry yX4_isFerry, .initialized RX4, .code yX4_isFerry cX4_isFerry 2 (some .boolean), .methodLink RX4 29 yX4_in, .static yX4_in, .code yX4_in cX4_in 3 (some .boolean), .methodLink RX4 40 yX4_refused, .instanceMethod yX4_refused, .selects RX4 yX4_refused yX4_refused, .code yX4_refused cX4_refused 4 (some .boolean), .methodLink RX4 75 yX4_price, .instanceMethod yX4_price, .selects RX4 yX4_price yX4_price, .code yX4_price cX4_price 3 (some .int)]
theorem oi_X4_costs : ∀ w ∈ o_X4_costs, w ∈ wGT := wGT_of _ [820, 822, 32, 57, 823, 802, 803, 804, 794, 796, 29, 797, 868, 870, 38, 871] (by decide +kernel) (by decide +kernel)
def ct_X4_costs : List (Instr × Nat) := [(.invokevirtual 55, 2), (.invokestatic 29, 3), (.invokevirtual 40, 4), (.invokevirtual 75, 3)]
abbrev rm_X4_costs : Room := { frames := 2, cells := 0, slots := 0, locals := 44 }
def b_X4_costs_0 : List wAn := [(.aload_n 0, 1, 0, 0, 0), (.aload_n 0, 1, 0, 0, 0), (.iload_n 1, 1, 0, 0, 0), (.invokevirtual 55, 3, 0, 0, 2), (.ifCond .ne 7, 3, 13, 0, 0), (.iconst 1, 1, 0, 0, 0), (.goto 4, 3, 14, 0, 0)]
def b_X4_costs_13 : List wAn := [(.iconst 0, 1, 0, 0, 0)]
def b_X4_costs_14 : List wAn := [(.iload_n 2, 1, 0, 0, 0), (.iconst 0, 1, 0, 0, 0), (.sipush 1439, 3, 0, 0, 0), (.invokestatic 29, 3, 1, 1, 3), (.ifCond .ne 7, 3, 29, 0, 0), (.iconst 1, 1, 0, 0, 0), (.goto 4, 3, 30, 0, 0)]
def b_X4_costs_29 : List wAn := [(.iconst 0, 1, 0, 0, 0)]
def b_X4_costs_30 : List wAn := [(.iconst 0, 1, 0, 0, 0), (.invokevirtual 40, 3, 2, 0, 4), (.ifCond .eq 7, 3, 41, 0, 0), (.iconst 0, 1, 0, 0, 0), (.goto 9, 3, 47, 0, 0)]
def b_X4_costs_41 : List wAn := [(.aload_n 0, 1, 0, 0, 0), (.iload_n 1, 1, 0, 0, 0), (.iload_n 2, 1, 0, 0, 0), (.invokevirtual 75, 3, 3, 0, 3)]
def b_X4_costs_47 : List wAn := [(.ireturn, 1, 0, 0, 0)]
def q_X4_costs : List (Nat × List wAn) := [(0, b_X4_costs_0), (13, b_X4_costs_13), (14, b_X4_costs_14), (29, b_X4_costs_29), (30, b_X4_costs_30), (41, b_X4_costs_41), (47, b_X4_costs_47)]
abbrev ck_X4_costs : List wAn → Nat → Bool := w_ckB o_X4_costs RX4 vwCl 3 cX4_costs ct_X4_costs
theorem cq_X4_costs : q_X4_costs.all (fun q => ck_X4_costs q.2 q.1) = true := by decide +kernel
def o_X4_place : List Cond := [.fieldLink RX4 7 RX4 "row" "[I", .methodLink RX4 78 yX4_isPerson, .static yX4_isPerson, .initialized RX4, .code yX4_isPerson cX4_isPerson 1 (some .boolean), .methodLink RX4 44 yX4_isIsland, .static yX4_isIsland, .code yX4_isIsland cX4_isIsland 1 (some .boolean), .methodLink RX4 29 yX4_in, .static yX4_in, .code yX4_in cX4_in 3 (some .boolean), .methodLink RX4 40 yX4_refused, .instanceMethod yX4_refused, .selects RX4 yX4_refused yX4_refused, .code yX4_refused cX4_refused 4 (some .boolean), .methodLink RX4 81 yX4_ofPerson, .instanceMethod yX4_ofPerson, .selects RX4 yX4_ofPerson yX4_ofPerson, .code yX4_ofPerson cX4_ofPerson 3 (some .int), .methodLink RX4 48 yX4_save, .instanceMethod yX4_save, .selects RX4 yX4_save yX4_save, .code yX4_save cX4_save 2 none] ++ wsX40
theorem oi_X4_place : ∀ w ∈ o_X4_place, w ∈ wGT := wGT_of _ [751, 876, 877, 57, 878, 805, 806, 807, 802, 803, 804, 794, 796, 29, 797, 879, 881, 39, 882, 808, 810, 30, 811, 762, 764, 766, 768, 770, 772, 774, 776, 778, 780, 782] (by decide +kernel) (by decide +kernel)
def ct_X4_place : List (Instr × Nat) := [(.invokestatic 78, 1), (.invokestatic 44, 1), (.invokestatic 29, 3), (.invokevirtual 40, 4), (.invokevirtual 81, 3), (.invokevirtual 48, 1)]
abbrev rm_X4_place : Room := { frames := 2, cells := 0, slots := 0, locals := 42 }
def b_X4_place_0 : List wAn := [(.aload_n 0, 1, 0, 0, 0), (.iload_n 1, 1, 0, 0, 0), (.invokestatic 78, 3, 0, 1, 1), (.ifCond .eq 10, 3, 15, 0, 0), (.iload_n 2, 1, 0, 0, 0), (.invokestatic 44, 3, 1, 1, 1), (.ifCond .ne 7, 3, 19, 0, 0)]
def b_X4_place_15 : List wAn := [(.iconst 1, 1, 0, 0, 0), (.goto 4, 3, 20, 0, 0)]
def b_X4_place_19 : List wAn := [(.iconst 0, 1, 0, 0, 0)]
def b_X4_place_20 : List wAn := [(.iload_n 3, 1, 0, 0, 0), (.iconst 0, 1, 0, 0, 0), (.sipush 1439, 3, 0, 0, 0), (.invokestatic 29, 3, 2, 1, 3), (.ifCond .eq 15, 3, 43, 0, 0), (.iload 4, 2, 0, 0, 0), (.iconst 0, 1, 0, 0, 0), (.sipush 999, 3, 0, 0, 0), (.invokestatic 29, 3, 2, 1, 3), (.ifCond .ne 7, 3, 47, 0, 0)]
def b_X4_place_43 : List wAn := [(.iconst 1, 1, 0, 0, 0), (.goto 4, 3, 48, 0, 0)]
def b_X4_place_47 : List wAn := [(.iconst 0, 1, 0, 0, 0)]
def b_X4_place_48 : List wAn := [(.iconst 0, 1, 0, 0, 0), (.invokevirtual 40, 3, 3, 0, 4), (.ifCond .eq 5, 3, 57, 0, 0), (.iconst 0, 1, 0, 0, 0), (.ireturn, 1, 0, 0, 0)]
def b_X4_place_57 : List wAn := [(.aload_n 0, 1, 0, 0, 0), (.iload_n 1, 1, 0, 0, 0), (.iconst 2, 1, 0, 0, 0), (.invokevirtual 81, 3, 4, 0, 3), (.istore 5, 2, 0, 0, 0), (.aload_n 0, 1, 0, 0, 0), (.invokevirtual 48, 3, 5, 0, 1), (.sipush 129, 3, 0, 0, 0), (.iconst 5, 1, 0, 0, 0), (.iload_n 1, 1, 0, 0, 0), (.imul, 1, 0, 0, 0), (.iadd, 1, 0, 0, 0), (.istore 6, 2, 0, 0, 0), (.aload_n 0, 1, 0, 0, 0), (.getfield 7, 3, 0, 4, 0), (.iload 6, 2, 0, 0, 0), (.iconst 0, 1, 0, 0, 0), (.iadd, 1, 0, 0, 0), (.iload_n 2, 1, 0, 0, 0), (.iastore, 1, 1, 0, 0), (.aload_n 0, 1, 0, 0, 0), (.getfield 7, 3, 0, 4, 0), (.iload 6, 2, 0, 0, 0), (.iconst 1, 1, 0, 0, 0), (.iadd, 1, 0, 0, 0), (.iload_n 3, 1, 0, 0, 0), (.iastore, 1, 1, 0, 0), (.aload_n 0, 1, 0, 0, 0), (.getfield 7, 3, 0, 4, 0), (.iload 6, 2, 0, 0, 0), (.iconst 2, 1, 0, 0, 0), (.iadd, 1, 0, 0, 0), (.iload 4, 2, 0, 0, 0), (.iastore, 1, 1, 0, 0), (.iload 5, 2, 0, 0, 0), (.ireturn, 1, 0, 0, 0)]
def q_X4_place : List (Nat × List wAn) := [(0, b_X4_place_0), (15, b_X4_place_15), (19, b_X4_place_19), (20, b_X4_place_20), (43, b_X4_place_43), (47, b_X4_place_47), (48, b_X4_place_48), (57, b_X4_place_57)]
abbrev ck_X4_place : List wAn → Nat → Bool := w_ckB o_X4_place RX4 vwCl 7 cX4_place ct_X4_place
theorem cq_X4_place : q_X4_place.all (fun q => ck_X4_place q.2 q.1) = true := by decide +kernel
def o_X4_rest : List Cond := [.fieldLink RX4 7 RX4 "row" "[I", .methodLink RX4 78 yX4_isPerson, .static yX4_isPerson, .initialized RX4, .code yX4_isPerson cX4_isPerson 1 (some .boolean), .methodLink RX4 29 yX4_in, .static yX4_in, .code yX4_in cX4_in 3 (some .boolean), .methodLink RX4 40 yX4_refused, .instanceMethod yX4_refused, .selects RX4 yX4_refused yX4_refused, .code yX4_refused cX4_refused 4 (some .boolean), .methodLink RX4 81 yX4_ofPerson, .instanceMethod yX4_ofPerson, .selects RX4 yX4_ofPerson yX4_ofPerson, .code yX4_ofPerson cX4_ofPerson 3 (some .int), .methodLink RX4 48 yX4_save, .instanceMethod yX4_save, .selects RX4 yX4_save yX4_save, .code yX4_save cX4_save 2 none] ++ wsX40
theorem oi_X4_rest : ∀ w ∈ o_X4_rest, w ∈ wGT := wGT_of _ [751, 876, 877, 57, 878, 802, 803, 804, 794, 796, 29, 797, 879, 881, 39, 882, 808, 810, 30, 811, 762, 764, 766, 768, 770, 772, 774, 776, 778, 780, 782] (by decide +kernel) (by decide +kernel)
def ct_X4_rest : List (Instr × Nat) := [(.invokestatic 78, 1), (.invokestatic 29, 3), (.invokevirtual 40, 4), (.invokevirtual 81, 3), (.invokevirtual 48, 1)]
abbrev rm_X4_rest : Room := { frames := 2, cells := 0, slots := 0, locals := 42 }
def b_X4_rest_0 : List wAn := [(.aload_n 0, 1, 0, 0, 0), (.iload_n 1, 1, 0, 0, 0), (.invokestatic 78, 3, 0, 1, 1), (.ifCond .ne 7, 3, 12, 0, 0), (.iconst 1, 1, 0, 0, 0), (.goto 4, 3, 13, 0, 0)]
def b_X4_rest_12 : List wAn := [(.iconst 0, 1, 0, 0, 0)]
def b_X4_rest_13 : List wAn := [(.iload_n 2, 1, 0, 0, 0), (.iconst 1, 1, 0, 0, 0), (.sipush 720, 3, 0, 0, 0), (.invokestatic 29, 3, 1, 1, 3), (.ifCond .ne 7, 3, 28, 0, 0), (.iconst 1, 1, 0, 0, 0), (.goto 4, 3, 29, 0, 0)]
def b_X4_rest_28 : List wAn := [(.iconst 0, 1, 0, 0, 0)]
def b_X4_rest_29 : List wAn := [(.iconst 0, 1, 0, 0, 0), (.invokevirtual 40, 3, 2, 0, 4), (.ifCond .ne 31, 3, 64, 0, 0), (.aload_n 0, 1, 0, 0, 0), (.iconst 0, 1, 0, 0, 0), (.iconst 0, 1, 0, 0, 0), (.aload_n 0, 1, 0, 0, 0), (.iload_n 1, 1, 0, 0, 0), (.iconst 1, 1, 0, 0, 0), (.invokevirtual 81, 3, 3, 0, 3), (.iload_n 2, 1, 0, 0, 0), (.iadd, 1, 0, 0, 0), (.sipush 1439, 3, 0, 0, 0), (.if_icmp .le 7, 3, 57, 0, 0), (.iconst 1, 1, 0, 0, 0), (.goto 4, 3, 58, 0, 0)]
def b_X4_rest_57 : List wAn := [(.iconst 0, 1, 0, 0, 0)]
def b_X4_rest_58 : List wAn := [(.invokevirtual 40, 3, 2, 0, 4), (.ifCond .eq 5, 3, 66, 0, 0)]
def b_X4_rest_64 : List wAn := [(.iconst 0, 1, 0, 0, 0), (.ireturn, 1, 0, 0, 0)]
def b_X4_rest_66 : List wAn := [(.aload_n 0, 1, 0, 0, 0), (.iload_n 1, 1, 0, 0, 0), (.iconst 1, 1, 0, 0, 0), (.invokevirtual 81, 3, 3, 0, 3), (.iload_n 2, 1, 0, 0, 0), (.iadd, 1, 0, 0, 0), (.istore_n 3, 1, 0, 0, 0), (.aload_n 0, 1, 0, 0, 0), (.invokevirtual 48, 3, 4, 0, 1), (.aload_n 0, 1, 0, 0, 0), (.getfield 7, 3, 0, 4, 0), (.sipush 129, 3, 0, 0, 0), (.iconst 5, 1, 0, 0, 0), (.iload_n 1, 1, 0, 0, 0), (.imul, 1, 0, 0, 0), (.iadd, 1, 0, 0, 0), (.iconst 1, 1, 0, 0, 0), (.iadd, 1, 0, 0, 0), (.iload_n 3, 1, 0, 0, 0), (.iastore, 1, 1, 0, 0), (.iload_n 3, 1, 0, 0, 0), (.ireturn, 1, 0, 0, 0)]
def q_X4_rest : List (Nat × List wAn) := [(0, b_X4_rest_0), (12, b_X4_rest_12), (13, b_X4_rest_13), (28, b_X4_rest_28), (29, b_X4_rest_29), (57, b_X4_rest_57), (58, b_X4_rest_58), (64, b_X4_rest_64), (66, b_X4_rest_66)]
abbrev ck_X4_rest : List wAn → Nat → Bool := w_ckB o_X4_rest RX4 vwCl 4 cX4_rest ct_X4_rest
theorem cq_X4_rest : q_X4_rest.all (fun q => ck_X4_rest q.2 q.1) = true := by decide +kernel
def o_X4_reason : List Cond := [.methodLink RX4 62 yX4_of, .instanceMethod yX4_of, .selects RX4 yX4_of yX4_of, .initialized RX4, .code yX4_of cX4_of 3 (some .int), .methodLink RX4 81 yX4_ofPerson, .instanceMethod yX4_ofPerson, .selects RX4 yX4_ofPerson yX4_ofPerson, .code yX4_ofPerson cX4_ofPerson 3 (some .int), .methodLink RX4 72 yX4_nextLeaving, .instanceMethod yX4_nextLeaving, .selects RX4 yX4_nextLeaving yX4_nextLeaving, .code yX4_nextLeaving cX4_nextLeaving 4 (some .int), .methodLink RX4 75 yX4_price, .instanceMethod yX4_price, .selects RX4 yX4_price yX4_price, .code yX4_price cX4_price 3 (some .int)]
theorem oi_X4_reason : ∀ w ∈ o_X4_reason, w ∈ wGT := wGT_of _ [856, 858, 36, 57, 859, 879, 881, 39, 882, 848, 850, 34, 851, 868, 870, 38, 871] (by decide +kernel) (by decide +kernel)
def ct_X4_reason : List (Instr × Nat) := [(.invokevirtual 62, 3), (.invokevirtual 81, 3), (.invokevirtual 72, 3), (.invokevirtual 75, 3)]
abbrev rm_X4_reason : Room := { frames := 3, cells := 0, slots := 0, locals := 69 }
def b_X4_reason_0 : List wAn := [(.aload_n 0, 1, 0, 0, 0), (.iload_n 2, 1, 0, 0, 0), (.iconst 0, 1, 0, 0, 0), (.invokevirtual 62, 3, 0, 0, 3), (.aload_n 0, 1, 0, 0, 0), (.iload_n 1, 1, 0, 0, 0), (.iconst 0, 1, 0, 0, 0), (.invokevirtual 81, 3, 1, 0, 3), (.if_icmp .eq 5, 3, 17, 0, 0), (.iconst 1, 1, 0, 0, 0), (.ireturn, 1, 0, 0, 0)]
def b_X4_reason_17 : List wAn := [(.aload_n 0, 1, 0, 0, 0), (.iload_n 2, 1, 0, 0, 0), (.aload_n 0, 1, 0, 0, 0), (.iload_n 1, 1, 0, 0, 0), (.iconst 1, 1, 0, 0, 0), (.invokevirtual 81, 3, 1, 0, 3), (.invokevirtual 72, 3, 2, 0, 3), (.istore_n 3, 1, 0, 0, 0), (.iload_n 3, 1, 0, 0, 0), (.iconst (-1), 1, 0, 0, 0), (.if_icmp .ne 7, 3, 38, 0, 0), (.iconst 2, 1, 0, 0, 0), (.goto 23, 3, 58, 0, 0)]
def b_X4_reason_38 : List wAn := [(.aload_n 0, 1, 0, 0, 0), (.iload_n 1, 1, 0, 0, 0), (.iconst 2, 1, 0, 0, 0), (.invokevirtual 81, 3, 1, 0, 3), (.aload_n 0, 1, 0, 0, 0), (.iload_n 2, 1, 0, 0, 0), (.iload_n 3, 1, 0, 0, 0), (.invokevirtual 75, 3, 3, 0, 3), (.if_icmp .ge 7, 3, 57, 0, 0), (.iconst 3, 1, 0, 0, 0), (.goto 4, 3, 58, 0, 0)]
def b_X4_reason_57 : List wAn := [(.iconst 0, 1, 0, 0, 0)]
def b_X4_reason_58 : List wAn := [(.ireturn, 1, 0, 0, 0)]
def q_X4_reason : List (Nat × List wAn) := [(0, b_X4_reason_0), (17, b_X4_reason_17), (38, b_X4_reason_38), (57, b_X4_reason_57), (58, b_X4_reason_58)]
abbrev ck_X4_reason : List wAn → Nat → Bool := w_ckB o_X4_reason RX4 vwCl 4 cX4_reason ct_X4_reason
theorem cq_X4_reason : q_X4_reason.all (fun q => ck_X4_reason q.2 q.1) = true := by decide +kernel
def o_X4_refusal : List Cond := [.methodLink RX4 78 yX4_isPerson, .static yX4_isPerson, .initialized RX4, .code yX4_isPerson cX4_isPerson 1 (some .boolean), .methodLink RX4 55 yX4_isFerry, .instanceMethod yX4_isFerry, .selects RX4 yX4_isFerry yX4_isFerry, .code yX4_isFerry cX4_isFerry 2 (some .boolean), .methodLink RX4 40 yX4_refused, .instanceMethod yX4_refused, .selects RX4 yX4_refused yX4_refused, .code yX4_refused cX4_refused 4 (some .boolean), .methodLink RX4 84 yX4_reason, .instanceMethod yX4_reason, .selects RX4 yX4_reason yX4_reason, .code yX4_reason cX4_reason 4 (some .int)]
theorem oi_X4_refusal : ∀ w ∈ o_X4_refusal, w ∈ wGT := wGT_of _ [876, 877, 57, 878, 820, 822, 32, 823, 794, 796, 29, 797, 891, 893, 40, 894] (by decide +kernel) (by decide +kernel)
def ct_X4_refusal : List (Instr × Nat) := [(.invokestatic 78, 1), (.invokevirtual 55, 2), (.invokevirtual 40, 4), (.invokevirtual 84, 3)]
abbrev rm_X4_refusal : Room := { frames := 4, cells := 0, slots := 0, locals := 92 }
def b_X4_refusal_0 : List wAn := [(.aload_n 0, 1, 0, 0, 0), (.iload_n 1, 1, 0, 0, 0), (.invokestatic 78, 3, 0, 1, 1), (.ifCond .eq 11, 3, 16, 0, 0), (.aload_n 0, 1, 0, 0, 0), (.iload_n 2, 1, 0, 0, 0), (.invokevirtual 55, 3, 1, 0, 2), (.ifCond .ne 7, 3, 20, 0, 0)]
def b_X4_refusal_16 : List wAn := [(.iconst 1, 1, 0, 0, 0), (.goto 4, 3, 21, 0, 0)]
def b_X4_refusal_20 : List wAn := [(.iconst 0, 1, 0, 0, 0)]
def b_X4_refusal_21 : List wAn := [(.iconst 0, 1, 0, 0, 0), (.iconst 0, 1, 0, 0, 0), (.invokevirtual 40, 3, 2, 0, 4), (.ifCond .eq 7, 3, 33, 0, 0), (.iconst 0, 1, 0, 0, 0), (.goto 9, 3, 39, 0, 0)]
def b_X4_refusal_33 : List wAn := [(.aload_n 0, 1, 0, 0, 0), (.iload_n 1, 1, 0, 0, 0), (.iload_n 2, 1, 0, 0, 0), (.invokevirtual 84, 3, 3, 0, 3)]
def b_X4_refusal_39 : List wAn := [(.ireturn, 1, 0, 0, 0)]
def q_X4_refusal : List (Nat × List wAn) := [(0, b_X4_refusal_0), (16, b_X4_refusal_16), (20, b_X4_refusal_20), (21, b_X4_refusal_21), (33, b_X4_refusal_33), (39, b_X4_refusal_39)]
abbrev ck_X4_refusal : List wAn → Nat → Bool := w_ckB o_X4_refusal RX4 vwCl 3 cX4_refusal ct_X4_refusal
theorem cq_X4_refusal : q_X4_refusal.all (fun q => ck_X4_refusal q.2 q.1) = true := by decide +kernel
def o_X4_take : List Cond := [.fieldLink RX4 7 RX4 "row" "[I", .methodLink RX4 78 yX4_isPerson, .static yX4_isPerson, .initialized RX4, .code yX4_isPerson cX4_isPerson 1 (some .boolean), .methodLink RX4 55 yX4_isFerry, .instanceMethod yX4_isFerry, .selects RX4 yX4_isFerry yX4_isFerry, .code yX4_isFerry cX4_isFerry 2 (some .boolean), .methodLink RX4 40 yX4_refused, .instanceMethod yX4_refused, .selects RX4 yX4_refused yX4_refused, .code yX4_refused cX4_refused 4 (some .boolean), .methodLink RX4 84 yX4_reason, .instanceMethod yX4_reason, .selects RX4 yX4_reason yX4_reason, .code yX4_reason cX4_reason 4 (some .int), .methodLink RX4 48 yX4_save, .instanceMethod yX4_save, .selects RX4 yX4_save yX4_save, .code yX4_save cX4_save 2 none, .methodLink RX4 72 yX4_nextLeaving, .instanceMethod yX4_nextLeaving, .selects RX4 yX4_nextLeaving yX4_nextLeaving, .code yX4_nextLeaving cX4_nextLeaving 4 (some .int), .methodLink RX4 75 yX4_price, .instanceMethod yX4_price, .selects RX4 yX4_price yX4_price, .code yX4_price cX4_price 3 (some .int), .methodLink RX4 62 yX4_of, .instanceMethod yX4_of, .selects RX4 yX4_of yX4_of, .code yX4_of cX4_of 3 (some .int)] ++ wsX40
theorem oi_X4_take : ∀ w ∈ o_X4_take, w ∈ wGT := wGT_of _ [751, 876, 877, 57, 878, 820, 822, 32, 823, 794, 796, 29, 797, 891, 893, 40, 894, 808, 810, 30, 811, 848, 850, 34, 851, 868, 870, 38, 871, 856, 858, 36, 859, 762, 764, 766, 768, 770, 772, 774, 776, 778, 780, 782] (by decide +kernel) (by decide +kernel)
def ct_X4_take : List (Instr × Nat) := [(.invokestatic 78, 1), (.invokevirtual 55, 2), (.invokevirtual 40, 4), (.invokevirtual 84, 3), (.invokevirtual 48, 1), (.invokevirtual 72, 3), (.invokevirtual 75, 3), (.invokevirtual 62, 3)]
abbrev rm_X4_take : Room := { frames := 4, cells := 0, slots := 0, locals := 92 }
def b_X4_take_0 : List wAn := [(.aload_n 0, 1, 0, 0, 0), (.iload_n 1, 1, 0, 0, 0), (.invokestatic 78, 3, 0, 1, 1), (.ifCond .eq 11, 3, 16, 0, 0), (.aload_n 0, 1, 0, 0, 0), (.iload_n 2, 1, 0, 0, 0), (.invokevirtual 55, 3, 1, 0, 2), (.ifCond .ne 7, 3, 20, 0, 0)]
def b_X4_take_16 : List wAn := [(.iconst 1, 1, 0, 0, 0), (.goto 4, 3, 21, 0, 0)]
def b_X4_take_20 : List wAn := [(.iconst 0, 1, 0, 0, 0)]
def b_X4_take_21 : List wAn := [(.iconst 0, 1, 0, 0, 0), (.iconst 0, 1, 0, 0, 0), (.invokevirtual 40, 3, 2, 0, 4), (.ifCond .ne 26, 3, 52, 0, 0), (.aload_n 0, 1, 0, 0, 0), (.iconst 0, 1, 0, 0, 0), (.aload_n 0, 1, 0, 0, 0), (.iload_n 1, 1, 0, 0, 0), (.iload_n 2, 1, 0, 0, 0), (.invokevirtual 84, 3, 3, 0, 3), (.ifCond .eq 7, 3, 44, 0, 0), (.iconst 1, 1, 0, 0, 0), (.goto 4, 3, 45, 0, 0)]
def b_X4_take_44 : List wAn := [(.iconst 0, 1, 0, 0, 0)]
def b_X4_take_45 : List wAn := [(.iconst 0, 1, 0, 0, 0), (.invokevirtual 40, 3, 2, 0, 4), (.ifCond .eq 5, 3, 54, 0, 0)]
def b_X4_take_52 : List wAn := [(.iconst 0, 1, 0, 0, 0), (.ireturn, 1, 0, 0, 0)]
def b_X4_take_54 : List wAn := [(.aload_n 0, 1, 0, 0, 0), (.invokevirtual 48, 3, 4, 0, 1), (.sipush 129, 3, 0, 0, 0), (.iconst 5, 1, 0, 0, 0), (.iload_n 1, 1, 0, 0, 0), (.imul, 1, 0, 0, 0), (.iadd, 1, 0, 0, 0), (.istore_n 3, 1, 0, 0, 0), (.aload_n 0, 1, 0, 0, 0), (.iload_n 2, 1, 0, 0, 0), (.aload_n 0, 1, 0, 0, 0), (.getfield 7, 3, 0, 4, 0), (.iload_n 3, 1, 0, 0, 0), (.iconst 1, 1, 0, 0, 0), (.iadd, 1, 0, 0, 0), (.iaload, 1, 1, 0, 0), (.invokevirtual 72, 3, 5, 0, 3), (.istore 4, 2, 0, 0, 0), (.aload_n 0, 1, 0, 0, 0), (.iload_n 2, 1, 0, 0, 0), (.iload 4, 2, 0, 0, 0), (.invokevirtual 75, 3, 6, 0, 3), (.istore 5, 2, 0, 0, 0), (.aload_n 0, 1, 0, 0, 0), (.getfield 7, 3, 0, 4, 0), (.iload_n 3, 1, 0, 0, 0), (.iconst 0, 1, 0, 0, 0), (.iadd, 1, 0, 0, 0), (.aload_n 0, 1, 0, 0, 0), (.iload_n 2, 1, 0, 0, 0), (.iconst 1, 1, 0, 0, 0), (.invokevirtual 62, 3, 7, 0, 3), (.iastore, 1, 1, 0, 0), (.aload_n 0, 1, 0, 0, 0), (.getfield 7, 3, 0, 4, 0), (.iload_n 3, 1, 0, 0, 0), (.iconst 1, 1, 0, 0, 0), (.iadd, 1, 0, 0, 0), (.iload 4, 2, 0, 0, 0), (.aload_n 0, 1, 0, 0, 0), (.iload_n 2, 1, 0, 0, 0), (.iconst 4, 1, 0, 0, 0), (.invokevirtual 62, 3, 7, 0, 3), (.iadd, 1, 0, 0, 0), (.iastore, 1, 1, 0, 0), (.aload_n 0, 1, 0, 0, 0), (.getfield 7, 3, 0, 4, 0), (.iload_n 3, 1, 0, 0, 0), (.iconst 2, 1, 0, 0, 0), (.iadd, 1, 0, 0, 0), (.dup2, 1, 0, 0, 0), (.iaload, 1, 1, 0, 0), (.iload 5, 2, 0, 0, 0), (.isub, 1, 0, 0, 0), (.iastore, 1, 1, 0, 0), (.aload_n 0, 1, 0, 0, 0), (.getfield 7, 3, 0, 4, 0), (.iload_n 3, 1, 0, 0, 0), (.iconst 3, 1, 0, 0, 0), (.iadd, 1, 0, 0, 0), (.dup2, 1, 0, 0, 0), (.iaload, 1, 1, 0, 0), (.iconst 1, 1, 0, 0, 0), (.iadd, 1, 0, 0, 0), (.iastore, 1, 1, 0, 0), (.aload_n 0, 1, 0, 0, 0), (.getfield 7, 3, 0, 4, 0), (.iload_n 3, 1, 0, 0, 0), (.iconst 4, 1, 0, 0, 0), (.iadd, 1, 0, 0, 0), (.dup2, 1, 0, 0, 0), (.iaload, 1, 1, 0, 0), (.iload 5, 2, 0, 0, 0), (.iadd, 1, 0, 0, 0), (.iastore, 1, 1, 0, 0), (.aload_n 0, 1, 0, 0, 0), (.getfield 7, 3, 0, 4, 0), (.iconst 3, 1, 0, 0, 0), (.bipush 9, 2, 0, 0, 0), (.iload_n 2, 1, 0, 0, 0), (.imul, 1, 0, 0, 0), (.iadd, 1, 0, 0, 0), (.bipush 8, 2, 0, 0, 0), (.iadd, 1, 0, 0, 0), (.dup2, 1, 0, 0, 0), (.iaload, 1, 1, 0, 0), (.iconst 1, 1, 0, 0, 0), (.iadd, 1, 0, 0, 0), (.iastore, 1, 1, 0, 0), (.aload_n 0, 1, 0, 0, 0), (.getfield 7, 3, 0, 4, 0), (.iload_n 3, 1, 0, 0, 0), (.iconst 1, 1, 0, 0, 0), (.iadd, 1, 0, 0, 0), (.iaload, 1, 1, 0, 0), (.ireturn, 1, 0, 0, 0)]
def q_X4_take : List (Nat × List wAn) := [(0, b_X4_take_0), (16, b_X4_take_16), (20, b_X4_take_20), (21, b_X4_take_21), (44, b_X4_take_44), (45, b_X4_take_45), (52, b_X4_take_52), (54, b_X4_take_54)]
abbrev ck_X4_take : List wAn → Nat → Bool := w_ckB o_X4_take RX4 vwCl 6 cX4_take ct_X4_take
theorem cq_X4_take : q_X4_take.all (fun q => ck_X4_take q.2 q.1) = true := by decide +kernel
def o_X4_append : List Cond := [.fieldLink RX4 87 RX4 "length" "I", .fieldLink RX4 16 RX4 "buffer" "[C", .methodLink RX4 29 yX4_in, .static yX4_in, .initialized RX4, .code yX4_in cX4_in 3 (some .boolean), .methodLink RX4 40 yX4_refused, .instanceMethod yX4_refused, .selects RX4 yX4_refused yX4_refused, .code yX4_refused cX4_refused 4 (some .boolean)] ++ wsX40
theorem oi_X4_append : ∀ w ∈ o_X4_append, w ∈ wGT := wGT_of _ [756, 755, 802, 803, 57, 804, 794, 796, 29, 797, 762, 764, 766, 768, 770, 772, 774, 776, 778, 780, 782] (by decide +kernel) (by decide +kernel)
def ct_X4_append : List (Instr × Nat) := [(.invokestatic 29, 3), (.invokevirtual 40, 4)]
abbrev rm_X4_append : Room := { frames := 1, cells := 0, slots := 0, locals := 23 }
def b_X4_append_0 : List wAn := [(.aload_n 0, 1, 0, 0, 0), (.iload_n 1, 1, 0, 0, 0), (.bipush 33, 2, 0, 0, 0), (.bipush 126, 2, 0, 0, 0), (.invokestatic 29, 3, 0, 1, 3), (.ifCond .ne 7, 3, 16, 0, 0), (.iconst 1, 1, 0, 0, 0), (.goto 4, 3, 17, 0, 0)]
def b_X4_append_16 : List wAn := [(.iconst 0, 1, 0, 0, 0)]
def b_X4_append_17 : List wAn := [(.aload_n 0, 1, 0, 0, 0), (.getfield 87, 3, 0, 4, 5), (.bipush 60, 2, 0, 0, 0), (.if_icmp .ne 7, 3, 30, 0, 0), (.iconst 1, 1, 0, 0, 0), (.goto 4, 3, 31, 0, 0)]
def b_X4_append_30 : List wAn := [(.iconst 0, 1, 0, 0, 0)]
def b_X4_append_31 : List wAn := [(.iconst 0, 1, 0, 0, 0), (.invokevirtual 40, 3, 1, 0, 4), (.ifCond .eq 5, 3, 40, 0, 0), (.iconst 0, 1, 0, 0, 0), (.ireturn, 1, 0, 0, 0)]
def b_X4_append_40 : List wAn := [(.aload_n 0, 1, 0, 0, 0), (.getfield 16, 3, 0, 4, 4), (.aload_n 0, 1, 0, 0, 0), (.getfield 87, 3, 0, 4, 5), (.iload_n 1, 1, 0, 0, 0), (.i2c, 1, 0, 0, 0), (.castore, 1, 3, 0, 0), (.aload_n 0, 1, 0, 0, 0), (.dup, 1, 0, 0, 0), (.getfield 87, 3, 0, 4, 5), (.iconst 1, 1, 0, 0, 0), (.iadd, 1, 0, 0, 0), (.putfield 87, 3, 0, 4, 5), (.aload_n 0, 1, 0, 0, 0), (.getfield 87, 3, 0, 4, 5), (.ireturn, 1, 0, 0, 0)]
def q_X4_append : List (Nat × List wAn) := [(0, b_X4_append_0), (16, b_X4_append_16), (17, b_X4_append_17), (30, b_X4_append_30), (31, b_X4_append_31), (40, b_X4_append_40)]
abbrev ck_X4_append : List wAn → Nat → Bool := w_ckB o_X4_append RX4 vwCl 2 cX4_append ct_X4_append
theorem cq_X4_append : q_X4_append.all (fun q => ck_X4_append q.2 q.1) = true := by decide +kernel
def o_X4_clearBuffer : List Cond := [.fieldLink RX4 33 RX4 "thrown" "I", .fieldLink RX4 87 RX4 "length" "I"] ++ wsX40
theorem oi_X4_clearBuffer : ∀ w ∈ o_X4_clearBuffer, w ∈ wGT := wGT_of _ [754, 756, 762, 764, 766, 768, 770, 772, 774, 776, 778, 780, 782] (by decide +kernel) (by decide +kernel)
def ct_X4_clearBuffer : List (Instr × Nat) := []
abbrev rm_X4_clearBuffer : Room := { frames := 0, cells := 0, slots := 0, locals := 0 }
def b_X4_clearBuffer_0 : List wAn := [(.aload_n 0, 1, 0, 0, 0), (.iconst 0, 1, 0, 0, 0), (.putfield 33, 3, 0, 4, 3), (.aload_n 0, 1, 0, 0, 0), (.getfield 87, 3, 0, 4, 5), (.istore_n 1, 1, 0, 0, 0), (.aload_n 0, 1, 0, 0, 0), (.iconst 0, 1, 0, 0, 0), (.putfield 87, 3, 0, 4, 5), (.iload_n 1, 1, 0, 0, 0), (.ireturn, 1, 0, 0, 0)]
def q_X4_clearBuffer : List (Nat × List wAn) := [(0, b_X4_clearBuffer_0)]
abbrev ck_X4_clearBuffer : List wAn → Nat → Bool := w_ckB o_X4_clearBuffer RX4 vwCl 2 cX4_clearBuffer ct_X4_clearBuffer
theorem cq_X4_clearBuffer : q_X4_clearBuffer.all (fun q => ck_X4_clearBuffer q.2 q.1) = true := by decide +kernel
def o_X4_sees : List Cond := [.fieldLink RX4 90 RX4 "at" "I", .fieldLink RX4 87 RX4 "length" "I", .fieldLink RX4 16 RX4 "buffer" "[C", .methodLink RX4 29 yX4_in, .static yX4_in, .initialized RX4, .code yX4_in cX4_in 3 (some .boolean)] ++ wsX40
theorem oi_X4_sees : ∀ w ∈ o_X4_sees, w ∈ wGT := wGT_of _ [759, 756, 755, 802, 803, 57, 804, 762, 764, 766, 768, 770, 772, 774, 776, 778, 780, 782] (by decide +kernel) (by decide +kernel)
def ct_X4_sees : List (Instr × Nat) := [(.invokestatic 29, 3)]
abbrev rm_X4_sees : Room := { frames := 1, cells := 0, slots := 0, locals := 22 }
def b_X4_sees_0 : List wAn := [(.aload_n 0, 1, 0, 0, 0), (.getfield 90, 3, 0, 4, 8), (.aload_n 0, 1, 0, 0, 0), (.getfield 87, 3, 0, 4, 5), (.if_icmp .ge 24, 3, 32, 0, 0), (.aload_n 0, 1, 0, 0, 0), (.getfield 16, 3, 0, 4, 4), (.aload_n 0, 1, 0, 0, 0), (.getfield 90, 3, 0, 4, 8), (.caload, 1, 3, 0, 0), (.iload_n 1, 1, 0, 0, 0), (.iload_n 2, 1, 0, 0, 0), (.invokestatic 29, 3, 0, 1, 3), (.ifCond .eq 7, 3, 32, 0, 0), (.iconst 1, 1, 0, 0, 0), (.goto 4, 3, 33, 0, 0)]
def b_X4_sees_32 : List wAn := [(.iconst 0, 1, 0, 0, 0)]
def b_X4_sees_33 : List wAn := [(.ireturn, 1, 0, 0, 0)]
def q_X4_sees : List (Nat × List wAn) := [(0, b_X4_sees_0), (32, b_X4_sees_32), (33, b_X4_sees_33)]
abbrev ck_X4_sees : List wAn → Nat → Bool := w_ckB o_X4_sees RX4 vwCl 3 cX4_sees ct_X4_sees
theorem cq_X4_sees : q_X4_sees.all (fun q => ck_X4_sees q.2 q.1) = true := by decide +kernel
def o_X4_sign : List Cond := [.fieldLink RX4 90 RX4 "at" "I", .methodLink RX4 93 yX4_sees, .instanceMethod yX4_sees, .selects RX4 yX4_sees yX4_sees, .initialized RX4, .code yX4_sees cX4_sees 3 (some .boolean)] ++ wsX40
theorem oi_X4_sign : ∀ w ∈ o_X4_sign, w ∈ wGT := wGT_of _ [759, 923, 925, 44, 57, 926, 762, 764, 766, 768, 770, 772, 774, 776, 778, 780, 782] (by decide +kernel) (by decide +kernel)
def ct_X4_sign : List (Instr × Nat) := [(.invokevirtual 93, 3)]
abbrev rm_X4_sign : Room := { frames := 2, cells := 0, slots := 0, locals := 44 }
def b_X4_sign_0 : List wAn := [(.aload_n 0, 1, 0, 0, 0), (.iload_n 1, 1, 0, 0, 0), (.iload_n 1, 1, 0, 0, 0), (.invokevirtual 93, 3, 0, 0, 3), (.istore_n 2, 1, 0, 0, 0), (.aload_n 0, 1, 0, 0, 0), (.dup, 1, 0, 0, 0), (.getfield 90, 3, 0, 4, 8), (.iload_n 2, 1, 0, 0, 0), (.ifCond .eq 7, 3, 20, 0, 0), (.iconst 1, 1, 0, 0, 0), (.goto 4, 3, 21, 0, 0)]
def b_X4_sign_20 : List wAn := [(.iconst 0, 1, 0, 0, 0)]
def b_X4_sign_21 : List wAn := [(.iadd, 1, 0, 0, 0), (.putfield 90, 3, 0, 4, 8), (.iload_n 2, 1, 0, 0, 0), (.ireturn, 1, 0, 0, 0)]
def q_X4_sign : List (Nat × List wAn) := [(0, b_X4_sign_0), (20, b_X4_sign_20), (21, b_X4_sign_21)]
abbrev ck_X4_sign : List wAn → Nat → Bool := w_ckB o_X4_sign RX4 vwCl 3 cX4_sign ct_X4_sign
theorem cq_X4_sign : q_X4_sign.all (fun q => ck_X4_sign q.2 q.1) = true := by decide +kernel
def o_X4_number : List Cond := [.fieldLink RX4 16 RX4 "buffer" "[C", .fieldLink RX4 90 RX4 "at" "I", .fieldLink RX4 20 RX4 "read" "[I", .methodLink RX4 96 yX4_sign, .instanceMethod yX4_sign, .selects RX4 yX4_sign yX4_sign, .initialized RX4, .code yX4_sign cX4_sign 3 (some .boolean), .methodLink RX4 93 yX4_sees, .instanceMethod yX4_sees, .selects RX4 yX4_sees yX4_sees, .code yX4_sees cX4_sees 3 (some .boolean)] ++ wsX40
theorem oi_X4_number : ∀ w ∈ o_X4_number, w ∈ wGT := wGT_of _ [755, 759, 757, 931, 933, 46, 57, 934, 923, 925, 44, 926, 762, 764, 766, 768, 770, 772, 774, 776, 778, 780, 782] (by decide +kernel) (by decide +kernel)
def ct_X4_number : List (Instr × Nat) := [(.invokevirtual 96, 2), (.invokevirtual 93, 3)]
abbrev rm_X4_number : Room := { frames := 3, cells := 0, slots := 0, locals := 66 }
def b_X4_number_0 : List wAn := [(.aload_n 0, 1, 0, 0, 0), (.iload_n 1, 1, 0, 0, 0), (.invokevirtual 96, 3, 0, 0, 2), (.ifCond .eq 23, 3, 28, 0, 0), (.aload_n 0, 1, 0, 0, 0), (.iload_n 2, 1, 0, 0, 0), (.ifCond .ne 8, 3, 18, 0, 0), (.bipush 48, 2, 0, 0, 0), (.goto 5, 3, 20, 0, 0)]
def b_X4_number_18 : List wAn := [(.bipush 49, 2, 0, 0, 0)]
def b_X4_number_20 : List wAn := [(.bipush 57, 2, 0, 0, 0), (.invokevirtual 93, 3, 1, 0, 3), (.ifCond .ne 5, 3, 30, 0, 0)]
def b_X4_number_28 : List wAn := [(.iconst 0, 1, 0, 0, 0), (.ireturn, 1, 0, 0, 0)]
def b_X4_number_30 : List wAn := [(.iconst 0, 1, 0, 0, 0), (.istore 5, 2, 0, 0, 0)]
def b_X4_number_33 : List wAn := [(.bipush 10, 2, 0, 0, 0), (.iload 5, 2, 0, 0, 0), (.imul, 1, 0, 0, 0), (.aload_n 0, 1, 0, 0, 0), (.getfield 16, 3, 0, 4, 4), (.aload_n 0, 1, 0, 0, 0), (.getfield 90, 3, 0, 4, 8), (.caload, 1, 3, 0, 0), (.iadd, 1, 0, 0, 0), (.bipush 48, 2, 0, 0, 0), (.isub, 1, 0, 0, 0), (.istore 5, 2, 0, 0, 0), (.aload_n 0, 1, 0, 0, 0), (.dup, 1, 0, 0, 0), (.getfield 90, 3, 0, 4, 8), (.iconst 1, 1, 0, 0, 0), (.iadd, 1, 0, 0, 0), (.putfield 90, 3, 0, 4, 8), (.iload 5, 2, 0, 0, 0), (.ifCond .le 36, 3, 101, 0, 0), (.aload_n 0, 1, 0, 0, 0), (.bipush 48, 2, 0, 0, 0), (.bipush 57, 2, 0, 0, 0), (.invokevirtual 93, 3, 1, 0, 3), (.ifCond .eq 25, 3, 101, 0, 0), (.bipush 10, 2, 0, 0, 0), (.iload 5, 2, 0, 0, 0), (.imul, 1, 0, 0, 0), (.aload_n 0, 1, 0, 0, 0), (.getfield 16, 3, 0, 4, 4), (.aload_n 0, 1, 0, 0, 0), (.getfield 90, 3, 0, 4, 8), (.caload, 1, 3, 0, 0), (.iadd, 1, 0, 0, 0), (.bipush 48, 2, 0, 0, 0), (.isub, 1, 0, 0, 0), (.iload_n 3, 1, 0, 0, 0), (.if_icmp .le (-65), 3, 33, 0, 0)]
def b_X4_number_101 : List wAn := [(.aload_n 0, 1, 0, 0, 0), (.getfield 20, 3, 0, 4, 6), (.iload 4, 2, 0, 0, 0), (.iload 5, 2, 0, 0, 0), (.iastore, 1, 4, 0, 0), (.iconst 1, 1, 0, 0, 0), (.ireturn, 1, 0, 0, 0)]
def q_X4_number : List (Nat × List wAn) := [(0, b_X4_number_0), (18, b_X4_number_18), (20, b_X4_number_20), (28, b_X4_number_28), (30, b_X4_number_30), (33, b_X4_number_33), (101, b_X4_number_101)]
abbrev ck_X4_number : List wAn → Nat → Bool := w_ckB o_X4_number RX4 vwCl 6 cX4_number ct_X4_number
theorem cq_X4_number : q_X4_number.all (fun q => ck_X4_number q.2 q.1) = true := by decide +kernel
def o_X4_isles : List Cond := [.fieldLink RX4 20 RX4 "read" "[I", .fieldLink RX4 16 RX4 "buffer" "[C", .fieldLink RX4 90 RX4 "at" "I", .methodLink RX4 93 yX4_sees, .instanceMethod yX4_sees, .selects RX4 yX4_sees yX4_sees, .initialized RX4, .code yX4_sees cX4_sees 3 (some .boolean)] ++ wsX40
theorem oi_X4_isles : ∀ w ∈ o_X4_isles, w ∈ wGT := wGT_of _ [757, 755, 759, 923, 925, 44, 57, 926, 762, 764, 766, 768, 770, 772, 774, 776, 778, 780, 782] (by decide +kernel) (by decide +kernel)
def ct_X4_isles : List (Instr × Nat) := [(.invokevirtual 93, 3)]
abbrev rm_X4_isles : Room := { frames := 2, cells := 0, slots := 0, locals := 44 }
def b_X4_isles_0 : List wAn := [(.aload_n 0, 1, 0, 0, 0), (.bipush 97, 2, 0, 0, 0), (.bipush 104, 2, 0, 0, 0), (.invokevirtual 93, 3, 0, 0, 3), (.ifCond .ne 5, 3, 13, 0, 0), (.iconst 0, 1, 0, 0, 0), (.ireturn, 1, 0, 0, 0)]
def b_X4_isles_13 : List wAn := [(.aload_n 0, 1, 0, 0, 0), (.getfield 20, 3, 0, 4, 6), (.iload_n 1, 1, 0, 0, 0), (.aload_n 0, 1, 0, 0, 0), (.getfield 16, 3, 0, 4, 4), (.aload_n 0, 1, 0, 0, 0), (.getfield 90, 3, 0, 4, 8), (.caload, 1, 3, 0, 0), (.bipush 97, 2, 0, 0, 0), (.isub, 1, 0, 0, 0), (.iastore, 1, 4, 0, 0), (.aload_n 0, 1, 0, 0, 0), (.dup, 1, 0, 0, 0), (.getfield 90, 3, 0, 4, 8), (.iconst 1, 1, 0, 0, 0), (.iadd, 1, 0, 0, 0), (.putfield 90, 3, 0, 4, 8), (.aload_n 0, 1, 0, 0, 0), (.bipush 97, 2, 0, 0, 0), (.bipush 104, 2, 0, 0, 0), (.invokevirtual 93, 3, 0, 0, 3), (.ifCond .eq 24, 3, 73, 0, 0), (.aload_n 0, 1, 0, 0, 0), (.getfield 16, 3, 0, 4, 4), (.aload_n 0, 1, 0, 0, 0), (.getfield 90, 3, 0, 4, 8), (.caload, 1, 3, 0, 0), (.bipush 97, 2, 0, 0, 0), (.isub, 1, 0, 0, 0), (.aload_n 0, 1, 0, 0, 0), (.getfield 20, 3, 0, 4, 6), (.iload_n 1, 1, 0, 0, 0), (.iaload, 1, 4, 0, 0), (.if_icmp .ne 5, 3, 75, 0, 0)]
def b_X4_isles_73 : List wAn := [(.iconst 0, 1, 0, 0, 0), (.ireturn, 1, 0, 0, 0)]
def b_X4_isles_75 : List wAn := [(.aload_n 0, 1, 0, 0, 0), (.getfield 20, 3, 0, 4, 6), (.iload_n 1, 1, 0, 0, 0), (.iconst 1, 1, 0, 0, 0), (.iadd, 1, 0, 0, 0), (.aload_n 0, 1, 0, 0, 0), (.getfield 16, 3, 0, 4, 4), (.aload_n 0, 1, 0, 0, 0), (.getfield 90, 3, 0, 4, 8), (.caload, 1, 3, 0, 0), (.bipush 97, 2, 0, 0, 0), (.isub, 1, 0, 0, 0), (.iastore, 1, 4, 0, 0), (.aload_n 0, 1, 0, 0, 0), (.dup, 1, 0, 0, 0), (.getfield 90, 3, 0, 4, 8), (.iconst 1, 1, 0, 0, 0), (.iadd, 1, 0, 0, 0), (.putfield 90, 3, 0, 4, 8), (.iconst 1, 1, 0, 0, 0), (.ireturn, 1, 0, 0, 0)]
def q_X4_isles : List (Nat × List wAn) := [(0, b_X4_isles_0), (13, b_X4_isles_13), (73, b_X4_isles_73), (75, b_X4_isles_75)]
abbrev ck_X4_isles : List wAn → Nat → Bool := w_ckB o_X4_isles RX4 vwCl 2 cX4_isles ct_X4_isles
theorem cq_X4_isles : q_X4_isles.all (fun q => ck_X4_isles q.2 q.1) = true := by decide +kernel
def o_X4_part : List Cond := [.fieldLink RX4 99 RX4 "parts" "I", .fieldLink RX4 20 RX4 "read" "[I", .fieldLink RX4 16 RX4 "buffer" "[C", .fieldLink RX4 90 RX4 "at" "I", .methodLink RX4 102 yX4_isles, .instanceMethod yX4_isles, .selects RX4 yX4_isles yX4_isles, .initialized RX4, .code yX4_isles cX4_isles 2 (some .boolean), .methodLink RX4 105 yX4_number, .instanceMethod yX4_number, .selects RX4 yX4_number yX4_number, .code yX4_number cX4_number 6 (some .boolean), .methodLink RX4 93 yX4_sees, .instanceMethod yX4_sees, .selects RX4 yX4_sees yX4_sees, .code yX4_sees cX4_sees 3 (some .boolean)] ++ wsX40
theorem oi_X4_part : ∀ w ∈ o_X4_part, w ∈ wGT := wGT_of _ [758, 757, 755, 759, 919, 921, 43, 57, 922, 927, 929, 45, 930, 923, 925, 44, 926, 762, 764, 766, 768, 770, 772, 774, 776, 778, 780, 782] (by decide +kernel) (by decide +kernel)
def ct_X4_part : List (Instr × Nat) := [(.invokevirtual 102, 2), (.invokevirtual 105, 5), (.invokevirtual 93, 3)]
abbrev rm_X4_part : Room := { frames := 4, cells := 0, slots := 0, locals := 91 }
def b_X4_part_0 : List wAn := [(.bipush 7, 2, 0, 0, 0), (.aload_n 0, 1, 0, 0, 0), (.getfield 99, 3, 0, 4, 7), (.bipush 15, 2, 0, 0, 0), (.if_icmp .ge 10, 3, 18, 0, 0), (.aload_n 0, 1, 0, 0, 0), (.getfield 99, 3, 0, 4, 7), (.goto 5, 3, 20, 0, 0)]
def b_X4_part_18 : List wAn := [(.bipush 14, 2, 0, 0, 0)]
def b_X4_part_20 : List wAn := [(.imul, 1, 0, 0, 0), (.istore_n 1, 1, 0, 0, 0), (.aload_n 0, 1, 0, 0, 0), (.iload_n 1, 1, 0, 0, 0), (.invokevirtual 102, 3, 0, 0, 2), (.ifCond .eq 65, 3, 92, 0, 0), (.aload_n 0, 1, 0, 0, 0), (.bipush 64, 2, 0, 0, 0), (.iconst 0, 1, 0, 0, 0), (.sipush 199, 3, 0, 0, 0), (.iload_n 1, 1, 0, 0, 0), (.iconst 2, 1, 0, 0, 0), (.iadd, 1, 0, 0, 0), (.invokevirtual 105, 3, 1, 0, 5), (.ifCond .eq 49, 3, 92, 0, 0), (.aload_n 0, 1, 0, 0, 0), (.bipush 47, 2, 0, 0, 0), (.iconst 1, 1, 0, 0, 0), (.sipush 199, 3, 0, 0, 0), (.iload_n 1, 1, 0, 0, 0), (.iconst 3, 1, 0, 0, 0), (.iadd, 1, 0, 0, 0), (.invokevirtual 105, 3, 1, 0, 5), (.ifCond .eq 33, 3, 92, 0, 0), (.aload_n 0, 1, 0, 0, 0), (.bipush 43, 2, 0, 0, 0), (.iconst 1, 1, 0, 0, 0), (.bipush 99, 2, 0, 0, 0), (.iload_n 1, 1, 0, 0, 0), (.iconst 4, 1, 0, 0, 0), (.iadd, 1, 0, 0, 0), (.invokevirtual 105, 3, 1, 0, 5), (.ifCond .eq 18, 3, 92, 0, 0), (.aload_n 0, 1, 0, 0, 0), (.bipush 36, 2, 0, 0, 0), (.iconst 0, 1, 0, 0, 0), (.bipush 99, 2, 0, 0, 0), (.iload_n 1, 1, 0, 0, 0), (.iconst 5, 1, 0, 0, 0), (.iadd, 1, 0, 0, 0), (.invokevirtual 105, 3, 1, 0, 5), (.ifCond .ne 5, 3, 94, 0, 0)]
def b_X4_part_92 : List wAn := [(.iconst 0, 1, 0, 0, 0), (.ireturn, 1, 0, 0, 0)]
def b_X4_part_94 : List wAn := [(.aload_n 0, 1, 0, 0, 0), (.getfield 20, 3, 0, 4, 6), (.iload_n 1, 1, 0, 0, 0), (.bipush 6, 2, 0, 0, 0), (.iadd, 1, 0, 0, 0), (.aload_n 0, 1, 0, 0, 0), (.bipush 94, 2, 0, 0, 0), (.bipush 95, 2, 0, 0, 0), (.invokevirtual 93, 3, 2, 0, 3), (.ifCond .eq 20, 3, 130, 0, 0), (.aload_n 0, 1, 0, 0, 0), (.getfield 16, 3, 0, 4, 4), (.aload_n 0, 1, 0, 0, 0), (.getfield 90, 3, 0, 4, 8), (.caload, 1, 3, 0, 0), (.bipush 94, 2, 0, 0, 0), (.isub, 1, 0, 0, 0), (.iconst 1, 1, 0, 0, 0), (.iadd, 1, 0, 0, 0), (.goto 4, 3, 131, 0, 0)]
def b_X4_part_130 : List wAn := [(.iconst 0, 1, 0, 0, 0)]
def b_X4_part_131 : List wAn := [(.iastore, 1, 4, 0, 0), (.aload_n 0, 1, 0, 0, 0), (.dup, 1, 0, 0, 0), (.getfield 90, 3, 0, 4, 8), (.aload_n 0, 1, 0, 0, 0), (.getfield 20, 3, 0, 4, 6), (.iload_n 1, 1, 0, 0, 0), (.bipush 6, 2, 0, 0, 0), (.iadd, 1, 0, 0, 0), (.iaload, 1, 4, 0, 0), (.ifCond .le 7, 3, 153, 0, 0), (.iconst 1, 1, 0, 0, 0), (.goto 4, 3, 154, 0, 0)]
def b_X4_part_153 : List wAn := [(.iconst 0, 1, 0, 0, 0)]
def b_X4_part_154 : List wAn := [(.iadd, 1, 0, 0, 0), (.putfield 90, 3, 0, 4, 8), (.aload_n 0, 1, 0, 0, 0), (.dup, 1, 0, 0, 0), (.getfield 99, 3, 0, 4, 7), (.iconst 1, 1, 0, 0, 0), (.iadd, 1, 0, 0, 0), (.putfield 99, 3, 0, 4, 7), (.iconst 1, 1, 0, 0, 0), (.ireturn, 1, 0, 0, 0)]
def q_X4_part : List (Nat × List wAn) := [(0, b_X4_part_0), (18, b_X4_part_18), (20, b_X4_part_20), (92, b_X4_part_92), (94, b_X4_part_94), (130, b_X4_part_130), (131, b_X4_part_131), (153, b_X4_part_153), (154, b_X4_part_154)]
abbrev ck_X4_part : List wAn → Nat → Bool := w_ckB o_X4_part RX4 vwCl 2 cX4_part ct_X4_part
theorem cq_X4_part : q_X4_part.all (fun q => ck_X4_part q.2 q.1) = true := by decide +kernel
def o_X4_isComplete : List Cond := [.fieldLink RX4 90 RX4 "at" "I", .fieldLink RX4 99 RX4 "parts" "I", .fieldLink RX4 87 RX4 "length" "I", .methodLink RX4 109 yX4_part, .instanceMethod yX4_part, .selects RX4 yX4_part yX4_part, .initialized RX4, .code yX4_part cX4_part 2 (some .boolean), .methodLink RX4 96 yX4_sign, .instanceMethod yX4_sign, .selects RX4 yX4_sign yX4_sign, .code yX4_sign cX4_sign 3 (some .boolean)] ++ wsX40
theorem oi_X4_isComplete : ∀ w ∈ o_X4_isComplete, w ∈ wGT := wGT_of _ [759, 758, 756, 915, 917, 42, 57, 918, 931, 933, 46, 934, 762, 764, 766, 768, 770, 772, 774, 776, 778, 780, 782] (by decide +kernel) (by decide +kernel)
def ct_X4_isComplete : List (Instr × Nat) := [(.invokevirtual 109, 1), (.invokevirtual 96, 2)]
abbrev rm_X4_isComplete : Room := { frames := 5, cells := 0, slots := 0, locals := 112 }
def b_X4_isComplete_0 : List wAn := [(.aload_n 0, 1, 0, 0, 0), (.iconst 0, 1, 0, 0, 0), (.putfield 90, 3, 0, 4, 8), (.aload_n 0, 1, 0, 0, 0), (.iconst 0, 1, 0, 0, 0), (.putfield 99, 3, 0, 4, 7), (.aload_n 0, 1, 0, 0, 0), (.invokevirtual 109, 3, 0, 0, 1), (.istore_n 1, 1, 0, 0, 0)]
def b_X4_isComplete_15 : List wAn := [(.iload_n 1, 1, 0, 0, 0), (.ifCond .eq 39, 3, 55, 0, 0), (.aload_n 0, 1, 0, 0, 0), (.getfield 90, 3, 0, 4, 8), (.aload_n 0, 1, 0, 0, 0), (.getfield 87, 3, 0, 4, 5), (.if_icmp .ge 28, 3, 55, 0, 0), (.aload_n 0, 1, 0, 0, 0), (.bipush 59, 2, 0, 0, 0), (.invokevirtual 96, 3, 1, 0, 2), (.ifCond .eq 14, 3, 50, 0, 0), (.aload_n 0, 1, 0, 0, 0), (.invokevirtual 109, 3, 0, 0, 1), (.ifCond .eq 7, 3, 50, 0, 0), (.iconst 1, 1, 0, 0, 0), (.goto 4, 3, 51, 0, 0)]
def b_X4_isComplete_50 : List wAn := [(.iconst 0, 1, 0, 0, 0)]
def b_X4_isComplete_51 : List wAn := [(.istore_n 1, 1, 0, 0, 0), (.goto (-37), 3, 15, 0, 0)]
def b_X4_isComplete_55 : List wAn := [(.iload_n 1, 1, 0, 0, 0), (.ireturn, 1, 0, 0, 0)]
def q_X4_isComplete : List (Nat × List wAn) := [(0, b_X4_isComplete_0), (15, b_X4_isComplete_15), (50, b_X4_isComplete_50), (51, b_X4_isComplete_51), (55, b_X4_isComplete_55)]
abbrev ck_X4_isComplete : List wAn → Nat → Bool := w_ckB o_X4_isComplete RX4 vwCl 2 cX4_isComplete ct_X4_isComplete
theorem cq_X4_isComplete : q_X4_isComplete.all (fun q => ck_X4_isComplete q.2 q.1) = true := by decide +kernel
def o_X4_firstError : List Cond := [.fieldLink RX4 33 RX4 "thrown" "I", .fieldLink RX4 90 RX4 "at" "I", .methodLink RX4 113 yX4_isComplete, .instanceMethod yX4_isComplete, .selects RX4 yX4_isComplete yX4_isComplete, .initialized RX4, .code yX4_isComplete cX4_isComplete 2 (some .boolean)] ++ wsX40
theorem oi_X4_firstError : ∀ w ∈ o_X4_firstError, w ∈ wGT := wGT_of _ [754, 759, 911, 913, 41, 57, 914, 762, 764, 766, 768, 770, 772, 774, 776, 778, 780, 782] (by decide +kernel) (by decide +kernel)
def ct_X4_firstError : List (Instr × Nat) := [(.invokevirtual 113, 1)]
abbrev rm_X4_firstError : Room := { frames := 6, cells := 0, slots := 0, locals := 133 }
def b_X4_firstError_0 : List wAn := [(.aload_n 0, 1, 0, 0, 0), (.iconst 0, 1, 0, 0, 0), (.putfield 33, 3, 0, 4, 3), (.aload_n 0, 1, 0, 0, 0), (.invokevirtual 113, 3, 0, 0, 1), (.istore_n 1, 1, 0, 0, 0), (.aload_n 0, 1, 0, 0, 0), (.getfield 90, 3, 0, 4, 8), (.ireturn, 1, 0, 0, 0)]
def q_X4_firstError : List (Nat × List wAn) := [(0, b_X4_firstError_0)]
abbrev ck_X4_firstError : List wAn → Nat → Bool := w_ckB o_X4_firstError RX4 vwCl 2 cX4_firstError ct_X4_firstError
theorem cq_X4_firstError : q_X4_firstError.all (fun q => ck_X4_firstError q.2 q.1) = true := by decide +kernel
def o_X4_ferries : List Cond := [.fieldLink RX4 7 RX4 "row" "[I", .fieldLink RX4 99 RX4 "parts" "I", .fieldLink RX4 20 RX4 "read" "[I", .fieldLink RX4 87 RX4 "length" "I", .methodLink RX4 113 yX4_isComplete, .instanceMethod yX4_isComplete, .selects RX4 yX4_isComplete yX4_isComplete, .initialized RX4, .code yX4_isComplete cX4_isComplete 2 (some .boolean), .methodLink RX4 40 yX4_refused, .instanceMethod yX4_refused, .selects RX4 yX4_refused yX4_refused, .code yX4_refused cX4_refused 4 (some .boolean), .methodLink RX4 48 yX4_save, .instanceMethod yX4_save, .selects RX4 yX4_save yX4_save, .code yX4_save cX4_save 2 none, .methodLink RX4 51 yX4_lay, .instanceMethod yX4_lay, .selects RX4 yX4_lay yX4_lay, .code yX4_lay cX4_lay 9 none] ++ wsX40
theorem oi_X4_ferries : ∀ w ∈ o_X4_ferries, w ∈ wGT := wGT_of _ [751, 758, 757, 756, 911, 913, 41, 57, 914, 794, 796, 29, 797, 808, 810, 30, 811, 812, 814, 31, 815, 762, 764, 766, 768, 770, 772, 774, 776, 778, 780, 782] (by decide +kernel) (by decide +kernel)
def ct_X4_ferries : List (Instr × Nat) := [(.invokevirtual 113, 1), (.invokevirtual 40, 4), (.invokevirtual 48, 1), (.invokevirtual 51, 8)]
abbrev rm_X4_ferries : Room := { frames := 6, cells := 0, slots := 0, locals := 133 }
def b_X4_ferries_0 : List wAn := [(.aload_n 0, 1, 0, 0, 0), (.aload_n 0, 1, 0, 0, 0), (.invokevirtual 113, 3, 0, 0, 1), (.ifCond .ne 7, 3, 12, 0, 0), (.iconst 1, 1, 0, 0, 0), (.goto 4, 3, 13, 0, 0)]
def b_X4_ferries_12 : List wAn := [(.iconst 0, 1, 0, 0, 0)]
def b_X4_ferries_13 : List wAn := [(.iconst 0, 1, 0, 0, 0), (.iconst 0, 1, 0, 0, 0), (.invokevirtual 40, 3, 1, 0, 4), (.ifCond .ne 33, 3, 51, 0, 0), (.aload_n 0, 1, 0, 0, 0), (.iconst 0, 1, 0, 0, 0), (.aload_n 0, 1, 0, 0, 0), (.getfield 7, 3, 0, 4, 0), (.iconst 2, 1, 0, 0, 0), (.iaload, 1, 1, 0, 0), (.aload_n 0, 1, 0, 0, 0), (.getfield 99, 3, 0, 4, 7), (.iadd, 1, 0, 0, 0), (.bipush 14, 2, 0, 0, 0), (.if_icmp .le 7, 3, 43, 0, 0), (.iconst 1, 1, 0, 0, 0), (.goto 4, 3, 44, 0, 0)]
def b_X4_ferries_43 : List wAn := [(.iconst 0, 1, 0, 0, 0)]
def b_X4_ferries_44 : List wAn := [(.iconst 0, 1, 0, 0, 0), (.invokevirtual 40, 3, 1, 0, 4), (.ifCond .eq 5, 3, 53, 0, 0)]
def b_X4_ferries_51 : List wAn := [(.iconst 0, 1, 0, 0, 0), (.ireturn, 1, 0, 0, 0)]
def b_X4_ferries_53 : List wAn := [(.aload_n 0, 1, 0, 0, 0), (.invokevirtual 48, 3, 2, 0, 1), (.iconst 0, 1, 0, 0, 0), (.istore_n 1, 1, 0, 0, 0)]
def b_X4_ferries_59 : List wAn := [(.iload_n 1, 1, 0, 0, 0), (.aload_n 0, 1, 0, 0, 0), (.getfield 99, 3, 0, 4, 7), (.if_icmp .ge 73, 3, 137, 0, 0), (.bipush 7, 2, 0, 0, 0), (.iload_n 1, 1, 0, 0, 0), (.imul, 1, 0, 0, 0), (.istore_n 2, 1, 0, 0, 0), (.aload_n 0, 1, 0, 0, 0), (.aload_n 0, 1, 0, 0, 0), (.getfield 20, 3, 0, 4, 6), (.iload_n 2, 1, 0, 0, 0), (.iaload, 1, 4, 0, 0), (.aload_n 0, 1, 0, 0, 0), (.getfield 20, 3, 0, 4, 6), (.iload_n 2, 1, 0, 0, 0), (.iconst 1, 1, 0, 0, 0), (.iadd, 1, 0, 0, 0), (.iaload, 1, 4, 0, 0), (.aload_n 0, 1, 0, 0, 0), (.getfield 20, 3, 0, 4, 6), (.iload_n 2, 1, 0, 0, 0), (.iconst 2, 1, 0, 0, 0), (.iadd, 1, 0, 0, 0), (.iaload, 1, 4, 0, 0), (.aload_n 0, 1, 0, 0, 0), (.getfield 20, 3, 0, 4, 6), (.iload_n 2, 1, 0, 0, 0), (.iconst 3, 1, 0, 0, 0), (.iadd, 1, 0, 0, 0), (.iaload, 1, 4, 0, 0), (.aload_n 0, 1, 0, 0, 0), (.getfield 20, 3, 0, 4, 6), (.iload_n 2, 1, 0, 0, 0), (.iconst 4, 1, 0, 0, 0), (.iadd, 1, 0, 0, 0), (.iaload, 1, 4, 0, 0), (.aload_n 0, 1, 0, 0, 0), (.getfield 20, 3, 0, 4, 6), (.iload_n 2, 1, 0, 0, 0), (.iconst 5, 1, 0, 0, 0), (.iadd, 1, 0, 0, 0), (.iaload, 1, 4, 0, 0), (.aload_n 0, 1, 0, 0, 0), (.getfield 20, 3, 0, 4, 6), (.iload_n 2, 1, 0, 0, 0), (.bipush 6, 2, 0, 0, 0), (.iadd, 1, 0, 0, 0), (.iaload, 1, 4, 0, 0), (.invokevirtual 51, 3, 3, 0, 8), (.iinc 1 1, 3, 0, 0, 0), (.goto (-75), 3, 59, 0, 0)]
def b_X4_ferries_137 : List wAn := [(.aload_n 0, 1, 0, 0, 0), (.iconst 0, 1, 0, 0, 0), (.putfield 87, 3, 0, 4, 5), (.aload_n 0, 1, 0, 0, 0), (.getfield 7, 3, 0, 4, 0), (.iconst 2, 1, 0, 0, 0), (.iaload, 1, 1, 0, 0), (.ireturn, 1, 0, 0, 0)]
def q_X4_ferries : List (Nat × List wAn) := [(0, b_X4_ferries_0), (12, b_X4_ferries_12), (13, b_X4_ferries_13), (43, b_X4_ferries_43), (44, b_X4_ferries_44), (51, b_X4_ferries_51), (53, b_X4_ferries_53), (59, b_X4_ferries_59), (137, b_X4_ferries_137)]
abbrev ck_X4_ferries : List wAn → Nat → Bool := w_ckB o_X4_ferries RX4 vwCl 3 cX4_ferries ct_X4_ferries
theorem cq_X4_ferries : q_X4_ferries.all (fun q => ck_X4_ferries q.2 q.1) = true := by decide +kernel
def o_X4_ferryOf : List Cond := [.methodLink RX4 55 yX4_isFerry, .instanceMethod yX4_isFerry, .selects RX4 yX4_isFerry yX4_isFerry, .initialized RX4, .code yX4_isFerry cX4_isFerry 2 (some .boolean), .methodLink RX4 29 yX4_in, .static yX4_in, .code yX4_in cX4_in 3 (some .boolean), .methodLink RX4 40 yX4_refused, .instanceMethod yX4_refused, .selects RX4 yX4_refused yX4_refused, .code yX4_refused cX4_refused 4 (some .boolean), .methodLink RX4 62 yX4_of, .instanceMethod yX4_of, .selects RX4 yX4_of yX4_of, .code yX4_of cX4_of 3 (some .int)]
theorem oi_X4_ferryOf : ∀ w ∈ o_X4_ferryOf, w ∈ wGT := wGT_of _ [820, 822, 32, 57, 823, 802, 803, 804, 794, 796, 29, 797, 856, 858, 36, 859] (by decide +kernel) (by decide +kernel)
def ct_X4_ferryOf : List (Instr × Nat) := [(.invokevirtual 55, 2), (.invokestatic 29, 3), (.invokevirtual 40, 4), (.invokevirtual 62, 3)]
abbrev rm_X4_ferryOf : Room := { frames := 2, cells := 0, slots := 0, locals := 43 }
def b_X4_ferryOf_0 : List wAn := [(.aload_n 0, 1, 0, 0, 0), (.aload_n 0, 1, 0, 0, 0), (.iload_n 1, 1, 0, 0, 0), (.invokevirtual 55, 3, 0, 0, 2), (.ifCond .ne 7, 3, 13, 0, 0), (.iconst 1, 1, 0, 0, 0), (.goto 4, 3, 14, 0, 0)]
def b_X4_ferryOf_13 : List wAn := [(.iconst 0, 1, 0, 0, 0)]
def b_X4_ferryOf_14 : List wAn := [(.iload_n 2, 1, 0, 0, 0), (.iconst 0, 1, 0, 0, 0), (.bipush 8, 2, 0, 0, 0), (.invokestatic 29, 3, 1, 1, 3), (.ifCond .ne 7, 3, 28, 0, 0), (.iconst 1, 1, 0, 0, 0), (.goto 4, 3, 29, 0, 0)]
def b_X4_ferryOf_28 : List wAn := [(.iconst 0, 1, 0, 0, 0)]
def b_X4_ferryOf_29 : List wAn := [(.iconst 0, 1, 0, 0, 0), (.invokevirtual 40, 3, 2, 0, 4), (.ifCond .eq 7, 3, 40, 0, 0), (.iconst 0, 1, 0, 0, 0), (.goto 9, 3, 46, 0, 0)]
def b_X4_ferryOf_40 : List wAn := [(.aload_n 0, 1, 0, 0, 0), (.iload_n 1, 1, 0, 0, 0), (.iload_n 2, 1, 0, 0, 0), (.invokevirtual 62, 3, 3, 0, 3)]
def b_X4_ferryOf_46 : List wAn := [(.ireturn, 1, 0, 0, 0)]
def q_X4_ferryOf : List (Nat × List wAn) := [(0, b_X4_ferryOf_0), (13, b_X4_ferryOf_13), (14, b_X4_ferryOf_14), (28, b_X4_ferryOf_28), (29, b_X4_ferryOf_29), (40, b_X4_ferryOf_40), (46, b_X4_ferryOf_46)]
abbrev ck_X4_ferryOf : List wAn → Nat → Bool := w_ckB o_X4_ferryOf RX4 vwCl 3 cX4_ferryOf ct_X4_ferryOf
theorem cq_X4_ferryOf : q_X4_ferryOf.all (fun q => ck_X4_ferryOf q.2 q.1) = true := by decide +kernel
def o_X4_traveller : List Cond := [.methodLink RX4 78 yX4_isPerson, .static yX4_isPerson, .initialized RX4, .code yX4_isPerson cX4_isPerson 1 (some .boolean), .methodLink RX4 29 yX4_in, .static yX4_in, .code yX4_in cX4_in 3 (some .boolean), .methodLink RX4 40 yX4_refused, .instanceMethod yX4_refused, .selects RX4 yX4_refused yX4_refused, .code yX4_refused cX4_refused 4 (some .boolean), .methodLink RX4 81 yX4_ofPerson, .instanceMethod yX4_ofPerson, .selects RX4 yX4_ofPerson yX4_ofPerson, .code yX4_ofPerson cX4_ofPerson 3 (some .int)]
theorem oi_X4_traveller : ∀ w ∈ o_X4_traveller, w ∈ wGT := wGT_of _ [876, 877, 57, 878, 802, 803, 804, 794, 796, 29, 797, 879, 881, 39, 882] (by decide +kernel) (by decide +kernel)
def ct_X4_traveller : List (Instr × Nat) := [(.invokestatic 78, 1), (.invokestatic 29, 3), (.invokevirtual 40, 4), (.invokevirtual 81, 3)]
abbrev rm_X4_traveller : Room := { frames := 2, cells := 0, slots := 0, locals := 42 }
def b_X4_traveller_0 : List wAn := [(.aload_n 0, 1, 0, 0, 0), (.iload_n 1, 1, 0, 0, 0), (.invokestatic 78, 3, 0, 1, 1), (.ifCond .ne 7, 3, 12, 0, 0), (.iconst 1, 1, 0, 0, 0), (.goto 4, 3, 13, 0, 0)]
def b_X4_traveller_12 : List wAn := [(.iconst 0, 1, 0, 0, 0)]
def b_X4_traveller_13 : List wAn := [(.iload_n 2, 1, 0, 0, 0), (.iconst 0, 1, 0, 0, 0), (.iconst 4, 1, 0, 0, 0), (.invokestatic 29, 3, 1, 1, 3), (.ifCond .ne 7, 3, 26, 0, 0), (.iconst 1, 1, 0, 0, 0), (.goto 4, 3, 27, 0, 0)]
def b_X4_traveller_26 : List wAn := [(.iconst 0, 1, 0, 0, 0)]
def b_X4_traveller_27 : List wAn := [(.iconst 0, 1, 0, 0, 0), (.invokevirtual 40, 3, 2, 0, 4), (.ifCond .eq 7, 3, 38, 0, 0), (.iconst 0, 1, 0, 0, 0), (.goto 9, 3, 44, 0, 0)]
def b_X4_traveller_38 : List wAn := [(.aload_n 0, 1, 0, 0, 0), (.iload_n 1, 1, 0, 0, 0), (.iload_n 2, 1, 0, 0, 0), (.invokevirtual 81, 3, 3, 0, 3)]
def b_X4_traveller_44 : List wAn := [(.ireturn, 1, 0, 0, 0)]
def q_X4_traveller : List (Nat × List wAn) := [(0, b_X4_traveller_0), (12, b_X4_traveller_12), (13, b_X4_traveller_13), (26, b_X4_traveller_26), (27, b_X4_traveller_27), (38, b_X4_traveller_38), (44, b_X4_traveller_44)]
abbrev ck_X4_traveller : List wAn → Nat → Bool := w_ckB o_X4_traveller RX4 vwCl 3 cX4_traveller ct_X4_traveller
theorem cq_X4_traveller : q_X4_traveller.all (fun q => ck_X4_traveller q.2 q.1) = true := by decide +kernel
def o_X4_sum : List Cond := [.methodLink RX4 81 yX4_ofPerson, .instanceMethod yX4_ofPerson, .selects RX4 yX4_ofPerson yX4_ofPerson, .initialized RX4, .code yX4_ofPerson cX4_ofPerson 3 (some .int)]
theorem oi_X4_sum : ∀ w ∈ o_X4_sum, w ∈ wGT := wGT_of _ [879, 881, 39, 57, 882] (by decide +kernel) (by decide +kernel)
def ct_X4_sum : List (Instr × Nat) := [(.invokevirtual 81, 3)]
abbrev rm_X4_sum : Room := { frames := 1, cells := 0, slots := 0, locals := 22 }
def b_X4_sum_0 : List wAn := [(.iconst 0, 1, 0, 0, 0), (.istore_n 2, 1, 0, 0, 0), (.iconst 0, 1, 0, 0, 0), (.istore_n 3, 1, 0, 0, 0)]
def b_X4_sum_4 : List wAn := [(.iload_n 3, 1, 0, 0, 0), (.iconst 4, 1, 0, 0, 0), (.if_icmp .ge 18, 3, 24, 0, 0), (.iload_n 2, 1, 0, 0, 0), (.aload_n 0, 1, 0, 0, 0), (.iload_n 3, 1, 0, 0, 0), (.iload_n 1, 1, 0, 0, 0), (.invokevirtual 81, 3, 0, 0, 3), (.iadd, 1, 0, 0, 0), (.istore_n 2, 1, 0, 0, 0), (.iinc 3 1, 3, 0, 0, 0), (.goto (-17), 3, 4, 0, 0)]
def b_X4_sum_24 : List wAn := [(.iload_n 2, 1, 0, 0, 0), (.ireturn, 1, 0, 0, 0)]
def q_X4_sum : List (Nat × List wAn) := [(0, b_X4_sum_0), (4, b_X4_sum_4), (24, b_X4_sum_24)]
abbrev ck_X4_sum : List wAn → Nat → Bool := w_ckB o_X4_sum RX4 vwCl 4 cX4_sum ct_X4_sum
theorem cq_X4_sum : q_X4_sum.all (fun q => ck_X4_sum q.2 q.1) = true := by decide +kernel
def o_X4_count : List Cond := [.fieldLink RX4 7 RX4 "row" "[I", .fieldLink RX4 37 RX4 "states" "I", .methodLink RX4 29 yX4_in, .static yX4_in, .initialized RX4, .code yX4_in cX4_in 3 (some .boolean), .methodLink RX4 40 yX4_refused, .instanceMethod yX4_refused, .selects RX4 yX4_refused yX4_refused, .code yX4_refused cX4_refused 4 (some .boolean), .methodLink RX4 116 yX4_sum, .instanceMethod yX4_sum, .selects RX4 yX4_sum yX4_sum, .code yX4_sum cX4_sum 4 (some .int)] ++ wsX40
theorem oi_X4_count : ∀ w ∈ o_X4_count, w ∈ wGT := wGT_of _ [751, 753, 802, 803, 57, 804, 794, 796, 29, 797, 951, 953, 47, 954, 762, 764, 766, 768, 770, 772, 774, 776, 778, 780, 782] (by decide +kernel) (by decide +kernel)
def ct_X4_count : List (Instr × Nat) := [(.invokestatic 29, 3), (.invokevirtual 40, 4), (.invokevirtual 116, 2)]
abbrev rm_X4_count : Room := { frames := 2, cells := 0, slots := 0, locals := 45 }
def b_X4_count_0 : List wAn := [(.aload_n 0, 1, 0, 0, 0), (.iload_n 1, 1, 0, 0, 0), (.iconst 0, 1, 0, 0, 0), (.iconst 4, 1, 0, 0, 0), (.invokestatic 29, 3, 0, 1, 3), (.ifCond .ne 7, 3, 14, 0, 0), (.iconst 1, 1, 0, 0, 0), (.goto 4, 3, 15, 0, 0)]
def b_X4_count_14 : List wAn := [(.iconst 0, 1, 0, 0, 0)]
def b_X4_count_15 : List wAn := [(.iconst 0, 1, 0, 0, 0), (.iconst 0, 1, 0, 0, 0), (.invokevirtual 40, 3, 1, 0, 4), (.ifCond .eq 5, 3, 25, 0, 0), (.iconst 0, 1, 0, 0, 0), (.ireturn, 1, 0, 0, 0)]
def b_X4_count_25 : List wAn := [(.iload_n 1, 1, 0, 0, 0), (.ifCond .ne 12, 3, 38, 0, 0), (.aload_n 0, 1, 0, 0, 0), (.getfield 7, 3, 0, 4, 0), (.iconst 2, 1, 0, 0, 0), (.iaload, 1, 1, 0, 0), (.goto 46, 3, 81, 0, 0)]
def b_X4_count_38 : List wAn := [(.iload_n 1, 1, 0, 0, 0), (.iconst 1, 1, 0, 0, 0), (.if_icmp .ne 11, 3, 51, 0, 0), (.aload_n 0, 1, 0, 0, 0), (.iconst 3, 1, 0, 0, 0), (.invokevirtual 116, 3, 2, 0, 2), (.goto 33, 3, 81, 0, 0)]
def b_X4_count_51 : List wAn := [(.iload_n 1, 1, 0, 0, 0), (.iconst 2, 1, 0, 0, 0), (.if_icmp .ne 11, 3, 64, 0, 0), (.aload_n 0, 1, 0, 0, 0), (.iconst 4, 1, 0, 0, 0), (.invokevirtual 116, 3, 2, 0, 2), (.goto 20, 3, 81, 0, 0)]
def b_X4_count_64 : List wAn := [(.iload_n 1, 1, 0, 0, 0), (.iconst 3, 1, 0, 0, 0), (.if_icmp .ne 11, 3, 77, 0, 0), (.aload_n 0, 1, 0, 0, 0), (.iconst 2, 1, 0, 0, 0), (.invokevirtual 116, 3, 2, 0, 2), (.goto 7, 3, 81, 0, 0)]
def b_X4_count_77 : List wAn := [(.aload_n 0, 1, 0, 0, 0), (.getfield 37, 3, 0, 4, 2)]
def b_X4_count_81 : List wAn := [(.ireturn, 1, 0, 0, 0)]
def q_X4_count : List (Nat × List wAn) := [(0, b_X4_count_0), (14, b_X4_count_14), (15, b_X4_count_15), (25, b_X4_count_25), (38, b_X4_count_38), (51, b_X4_count_51), (64, b_X4_count_64), (77, b_X4_count_77), (81, b_X4_count_81)]
abbrev ck_X4_count : List wAn → Nat → Bool := w_ckB o_X4_count RX4 vwCl 2 cX4_count ct_X4_count
theorem cq_X4_count : q_X4_count.all (fun q => ck_X4_count q.2 q.1) = true := by decide +kernel
def o_X4_spread : List Cond := [.fieldLink RX4 23 RX4 "best" "[I", .constant RX4 120 (ii 1000000), .fieldLink RX4 7 RX4 "row" "[I", .methodLink RX4 62 yX4_of, .instanceMethod yX4_of, .selects RX4 yX4_of yX4_of, .initialized RX4, .code yX4_of cX4_of 3 (some .int), .methodLink RX4 72 yX4_nextLeaving, .instanceMethod yX4_nextLeaving, .selects RX4 yX4_nextLeaving yX4_nextLeaving, .code yX4_nextLeaving cX4_nextLeaving 4 (some .int)] ++ wsX40
theorem oi_X4_spread : ∀ w ∈ o_X4_spread, w ∈ wGT := wGT_of _ [760, 963, 751, 856, 858, 36, 57, 859, 848, 850, 34, 851, 762, 764, 766, 768, 770, 772, 774, 776, 778, 780, 782] (by decide +kernel) (by decide +kernel)
def ct_X4_spread : List (Instr × Nat) := [(.invokevirtual 62, 3), (.invokevirtual 72, 3)]
abbrev rm_X4_spread : Room := { frames := 3, cells := 0, slots := 0, locals := 69 }
def b_X4_spread_0 : List wAn := [(.iconst 0, 1, 0, 0, 0), (.istore_n 3, 1, 0, 0, 0)]
def b_X4_spread_2 : List wAn := [(.iload_n 3, 1, 0, 0, 0), (.bipush 8, 2, 0, 0, 0), (.if_icmp .ge 26, 3, 31, 0, 0), (.aload_n 0, 1, 0, 0, 0), (.getfield 23, 3, 0, 4, 9), (.iload_n 3, 1, 0, 0, 0), (.iload_n 3, 1, 0, 0, 0), (.iload_n 1, 1, 0, 0, 0), (.if_icmp .ne 7, 3, 22, 0, 0), (.iload_n 2, 1, 0, 0, 0), (.goto 5, 3, 24, 0, 0)]
def b_X4_spread_22 : List wAn := [(.ldc 120, 2, 1000000, 0, 0)]
def b_X4_spread_24 : List wAn := [(.iastore, 1, 5, 0, 0), (.iinc 3 1, 3, 0, 0, 0), (.goto (-26), 3, 2, 0, 0)]
def b_X4_spread_31 : List wAn := [(.iconst 1, 1, 0, 0, 0), (.istore_n 3, 1, 0, 0, 0)]
def b_X4_spread_33 : List wAn := [(.iload_n 3, 1, 0, 0, 0), (.ifCond .eq 126, 3, 160, 0, 0), (.iconst 0, 1, 0, 0, 0), (.istore_n 3, 1, 0, 0, 0), (.iconst 0, 1, 0, 0, 0), (.istore 4, 2, 0, 0, 0)]
def b_X4_spread_42 : List wAn := [(.iload 4, 2, 0, 0, 0), (.aload_n 0, 1, 0, 0, 0), (.getfield 7, 3, 0, 4, 0), (.iconst 2, 1, 0, 0, 0), (.iaload, 1, 1, 0, 0), (.if_icmp .ge 107, 3, 157, 0, 0), (.aload_n 0, 1, 0, 0, 0), (.getfield 23, 3, 0, 4, 9), (.aload_n 0, 1, 0, 0, 0), (.iload 4, 2, 0, 0, 0), (.iconst 0, 1, 0, 0, 0), (.invokevirtual 62, 3, 0, 0, 3), (.iaload, 1, 5, 0, 0), (.sipush 1439, 3, 0, 0, 0), (.if_icmp .le 7, 3, 75, 0, 0), (.iconst (-1), 1, 0, 0, 0), (.goto 21, 3, 93, 0, 0)]
def b_X4_spread_75 : List wAn := [(.aload_n 0, 1, 0, 0, 0), (.iload 4, 2, 0, 0, 0), (.aload_n 0, 1, 0, 0, 0), (.getfield 23, 3, 0, 4, 9), (.aload_n 0, 1, 0, 0, 0), (.iload 4, 2, 0, 0, 0), (.iconst 0, 1, 0, 0, 0), (.invokevirtual 62, 3, 0, 0, 3), (.iaload, 1, 5, 0, 0), (.invokevirtual 72, 3, 1, 0, 3)]
def b_X4_spread_93 : List wAn := [(.istore 5, 2, 0, 0, 0), (.iload 5, 2, 0, 0, 0), (.iconst (-1), 1, 0, 0, 0), (.if_icmp .ne 8, 3, 106, 0, 0), (.ldc 120, 2, 1000000, 0, 0), (.goto 13, 3, 116, 0, 0)]
def b_X4_spread_106 : List wAn := [(.iload 5, 2, 0, 0, 0), (.aload_n 0, 1, 0, 0, 0), (.iload 4, 2, 0, 0, 0), (.iconst 4, 1, 0, 0, 0), (.invokevirtual 62, 3, 0, 0, 3), (.iadd, 1, 0, 0, 0)]
def b_X4_spread_116 : List wAn := [(.istore 6, 2, 0, 0, 0), (.iload 6, 2, 0, 0, 0), (.aload_n 0, 1, 0, 0, 0), (.getfield 23, 3, 0, 4, 9), (.aload_n 0, 1, 0, 0, 0), (.iload 4, 2, 0, 0, 0), (.iconst 1, 1, 0, 0, 0), (.invokevirtual 62, 3, 0, 0, 3), (.iaload, 1, 5, 0, 0), (.if_icmp .ge 19, 3, 151, 0, 0), (.aload_n 0, 1, 0, 0, 0), (.getfield 23, 3, 0, 4, 9), (.aload_n 0, 1, 0, 0, 0), (.iload 4, 2, 0, 0, 0), (.iconst 1, 1, 0, 0, 0), (.invokevirtual 62, 3, 0, 0, 3), (.iload 6, 2, 0, 0, 0), (.iastore, 1, 5, 0, 0), (.iconst 1, 1, 0, 0, 0), (.istore_n 3, 1, 0, 0, 0)]
def b_X4_spread_151 : List wAn := [(.iinc 4 1, 3, 0, 0, 0), (.goto (-112), 3, 42, 0, 0)]
def b_X4_spread_157 : List wAn := [(.goto (-124), 3, 33, 0, 0)]
def b_X4_spread_160 : List wAn := [(.return_, 1, 0, 0, 0)]
def q_X4_spread : List (Nat × List wAn) := [(0, b_X4_spread_0), (2, b_X4_spread_2), (22, b_X4_spread_22), (24, b_X4_spread_24), (31, b_X4_spread_31), (33, b_X4_spread_33), (42, b_X4_spread_42), (75, b_X4_spread_75), (93, b_X4_spread_93), (106, b_X4_spread_106), (116, b_X4_spread_116), (151, b_X4_spread_151), (157, b_X4_spread_157), (160, b_X4_spread_160)]
abbrev ck_X4_spread : List wAn → Nat → Bool := w_ckB o_X4_spread RX4 vwCl 7 cX4_spread ct_X4_spread
theorem cq_X4_spread : q_X4_spread.all (fun q => ck_X4_spread q.2 q.1) = true := by decide +kernel
def o_X4_soonest : List Cond := [.fieldLink RX4 23 RX4 "best" "[I", .constant RX4 120 (ii 1000000), .methodLink RX4 44 yX4_isIsland, .static yX4_isIsland, .initialized RX4, .code yX4_isIsland cX4_isIsland 1 (some .boolean), .methodLink RX4 29 yX4_in, .static yX4_in, .code yX4_in cX4_in 3 (some .boolean), .methodLink RX4 40 yX4_refused, .instanceMethod yX4_refused, .selects RX4 yX4_refused yX4_refused, .code yX4_refused cX4_refused 4 (some .boolean), .methodLink RX4 121 yX4_spread, .instanceMethod yX4_spread, .selects RX4 yX4_spread yX4_spread, .code yX4_spread cX4_spread 7 none] ++ wsX40
theorem oi_X4_soonest : ∀ w ∈ o_X4_soonest, w ∈ wGT := wGT_of _ [760, 963, 805, 806, 57, 807, 802, 803, 804, 794, 796, 29, 797, 959, 961, 48, 962, 762, 764, 766, 768, 770, 772, 774, 776, 778, 780, 782] (by decide +kernel) (by decide +kernel)
def ct_X4_soonest : List (Instr × Nat) := [(.invokestatic 44, 1), (.invokestatic 29, 3), (.invokevirtual 40, 4), (.invokevirtual 121, 3)]
abbrev rm_X4_soonest : Room := { frames := 4, cells := 0, slots := 0, locals := 95 }
def b_X4_soonest_0 : List wAn := [(.aload_n 0, 1, 0, 0, 0), (.iload_n 1, 1, 0, 0, 0), (.invokestatic 44, 3, 0, 1, 1), (.ifCond .eq 10, 3, 15, 0, 0), (.iload_n 2, 1, 0, 0, 0), (.invokestatic 44, 3, 0, 1, 1), (.ifCond .ne 7, 3, 19, 0, 0)]
def b_X4_soonest_15 : List wAn := [(.iconst 1, 1, 0, 0, 0), (.goto 4, 3, 20, 0, 0)]
def b_X4_soonest_19 : List wAn := [(.iconst 0, 1, 0, 0, 0)]
def b_X4_soonest_20 : List wAn := [(.iload_n 3, 1, 0, 0, 0), (.iconst 0, 1, 0, 0, 0), (.sipush 1439, 3, 0, 0, 0), (.invokestatic 29, 3, 1, 1, 3), (.ifCond .ne 7, 3, 35, 0, 0), (.iconst 1, 1, 0, 0, 0), (.goto 4, 3, 36, 0, 0)]
def b_X4_soonest_35 : List wAn := [(.iconst 0, 1, 0, 0, 0)]
def b_X4_soonest_36 : List wAn := [(.iconst 0, 1, 0, 0, 0), (.invokevirtual 40, 3, 2, 0, 4), (.ifCond .eq 5, 3, 45, 0, 0), (.iconst 0, 1, 0, 0, 0), (.ireturn, 1, 0, 0, 0)]
def b_X4_soonest_45 : List wAn := [(.aload_n 0, 1, 0, 0, 0), (.iload_n 1, 1, 0, 0, 0), (.iload_n 3, 1, 0, 0, 0), (.invokevirtual 121, 3, 3, 0, 3), (.aload_n 0, 1, 0, 0, 0), (.getfield 23, 3, 0, 4, 9), (.iload_n 2, 1, 0, 0, 0), (.iaload, 1, 5, 0, 0), (.ldc 120, 2, 1000000, 0, 0), (.if_icmp .ne 7, 3, 66, 0, 0), (.iconst (-1), 1, 0, 0, 0), (.goto 9, 3, 72, 0, 0)]
def b_X4_soonest_66 : List wAn := [(.aload_n 0, 1, 0, 0, 0), (.getfield 23, 3, 0, 4, 9), (.iload_n 2, 1, 0, 0, 0), (.iaload, 1, 5, 0, 0)]
def b_X4_soonest_72 : List wAn := [(.ireturn, 1, 0, 0, 0)]
def q_X4_soonest : List (Nat × List wAn) := [(0, b_X4_soonest_0), (15, b_X4_soonest_15), (19, b_X4_soonest_19), (20, b_X4_soonest_20), (35, b_X4_soonest_35), (36, b_X4_soonest_36), (45, b_X4_soonest_45), (66, b_X4_soonest_66), (72, b_X4_soonest_72)]
abbrev ck_X4_soonest : List wAn → Nat → Bool := w_ckB o_X4_soonest RX4 vwCl 4 cX4_soonest ct_X4_soonest
theorem cq_X4_soonest : q_X4_soonest.all (fun q => ck_X4_soonest q.2 q.1) = true := by decide +kernel
def o_X4_joined : List Cond := [.fieldLink RX4 33 RX4 "thrown" "I", .fieldLink RX4 23 RX4 "best" "[I", .constant RX4 120 (ii 1000000), .constantDouble RX4 125 (UInt64.ofNat 4633078116657397760), .methodLink RX4 121 yX4_spread, .instanceMethod yX4_spread, .selects RX4 yX4_spread yX4_spread, .initialized RX4, .code yX4_spread cX4_spread 7 none] ++ wsX40
theorem oi_X4_joined : ∀ w ∈ o_X4_joined, w ∈ wGT := wGT_of _ [754, 760, 963, 968, 959, 961, 48, 57, 962, 762, 764, 766, 768, 770, 772, 774, 776, 778, 780, 782] (by decide +kernel) (by decide +kernel)
def ct_X4_joined : List (Instr × Nat) := [(.invokevirtual 121, 3)]
abbrev rm_X4_joined : Room := { frames := 4, cells := 0, slots := 0, locals := 95 }
def b_X4_joined_0 : List wAn := [(.aload_n 0, 1, 0, 0, 0), (.iconst 0, 1, 0, 0, 0), (.putfield 33, 3, 0, 4, 3), (.iconst 0, 1, 0, 0, 0), (.istore_n 1, 1, 0, 0, 0), (.iconst 0, 1, 0, 0, 0), (.istore_n 2, 1, 0, 0, 0)]
def b_X4_joined_9 : List wAn := [(.iload_n 2, 1, 0, 0, 0), (.bipush 8, 2, 0, 0, 0), (.if_icmp .ge 53, 3, 65, 0, 0), (.aload_n 0, 1, 0, 0, 0), (.iload_n 2, 1, 0, 0, 0), (.iconst 0, 1, 0, 0, 0), (.invokevirtual 121, 3, 0, 0, 3), (.iconst 0, 1, 0, 0, 0), (.istore_n 3, 1, 0, 0, 0)]
def b_X4_joined_23 : List wAn := [(.iload_n 3, 1, 0, 0, 0), (.bipush 8, 2, 0, 0, 0), (.if_icmp .ge 33, 3, 59, 0, 0), (.iload_n 1, 1, 0, 0, 0), (.iload_n 3, 1, 0, 0, 0), (.iload_n 2, 1, 0, 0, 0), (.if_icmp .eq 18, 3, 50, 0, 0), (.aload_n 0, 1, 0, 0, 0), (.getfield 23, 3, 0, 4, 9), (.iload_n 3, 1, 0, 0, 0), (.iaload, 1, 5, 0, 0), (.ldc 120, 2, 1000000, 0, 0), (.if_icmp .eq 7, 3, 50, 0, 0), (.iconst 1, 1, 0, 0, 0), (.goto 4, 3, 51, 0, 0)]
def b_X4_joined_50 : List wAn := [(.iconst 0, 1, 0, 0, 0)]
def b_X4_joined_51 : List wAn := [(.iadd, 1, 0, 0, 0), (.istore_n 1, 1, 0, 0, 0), (.iinc 3 1, 3, 0, 0, 0), (.goto (-33), 3, 23, 0, 0)]
def b_X4_joined_59 : List wAn := [(.iinc 2 1, 3, 0, 0, 0), (.goto (-53), 3, 9, 0, 0)]
def b_X4_joined_65 : List wAn := [(.iload_n 1, 1, 0, 0, 0), (.i2d, 1, 0, 0, 0), (.ldc2_w 125, 3, 4633078116657397760, 1, 0), (.ddiv, 1, 0, 0, 0), (.dreturn, 1, 0, 0, 0)]
def q_X4_joined : List (Nat × List wAn) := [(0, b_X4_joined_0), (9, b_X4_joined_9), (23, b_X4_joined_23), (50, b_X4_joined_50), (51, b_X4_joined_51), (59, b_X4_joined_59), (65, b_X4_joined_65)]
abbrev ck_X4_joined : List wAn → Nat → Bool := w_ckB o_X4_joined RX4 vwCl 4 cX4_joined ct_X4_joined
theorem cq_X4_joined : q_X4_joined.all (fun q => ck_X4_joined q.2 q.1) = true := by decide +kernel
def o_X4_cellOf : List Cond := []
theorem oi_X4_cellOf : ∀ w ∈ o_X4_cellOf, w ∈ wGT := wGT_of _ [] (by decide +kernel) (by decide +kernel)
def ct_X4_cellOf : List (Instr × Nat) := []
abbrev rm_X4_cellOf : Room := { frames := 0, cells := 0, slots := 0, locals := 0 }
def b_X4_cellOf_0 : List wAn := [(.sipush 1540, 3, 0, 0, 0), (.iload_n 0, 1, 0, 0, 0), (.imul, 1, 0, 0, 0), (.iload_n 1, 1, 0, 0, 0), (.iadd, 1, 0, 0, 0), (.ireturn, 1, 0, 0, 0)]
def q_X4_cellOf : List (Nat × List wAn) := [(0, b_X4_cellOf_0)]
abbrev ck_X4_cellOf : List wAn → Nat → Bool := w_ckB o_X4_cellOf RX4 vwCl 2 cX4_cellOf ct_X4_cellOf
theorem cq_X4_cellOf : q_X4_cellOf.all (fun q => ck_X4_cellOf q.2 q.1) = true := by decide +kernel
def o_X4_pay : List Cond := [.fieldLink RX4 26 RX4 "coins" "[I", .constant RX4 120 (ii 1000000), .fieldLink RX4 7 RX4 "row" "[I", .methodLink RX4 127 yX4_cellOf, .static yX4_cellOf, .initialized RX4, .code yX4_cellOf cX4_cellOf 2 (some .int), .methodLink RX4 62 yX4_of, .instanceMethod yX4_of, .selects RX4 yX4_of yX4_of, .code yX4_of cX4_of 3 (some .int), .methodLink RX4 69 yX4_leavesAt, .instanceMethod yX4_leavesAt, .selects RX4 yX4_leavesAt yX4_leavesAt, .code yX4_leavesAt cX4_leavesAt 4 (some .boolean), .methodLink RX4 75 yX4_price, .instanceMethod yX4_price, .selects RX4 yX4_price yX4_price, .code yX4_price cX4_price 3 (some .int)] ++ wsX40
theorem oi_X4_pay : ∀ w ∈ o_X4_pay, w ∈ wGT := wGT_of _ [761, 963, 751, 977, 978, 57, 979, 856, 858, 36, 859, 852, 854, 35, 855, 868, 870, 38, 871, 762, 764, 766, 768, 770, 772, 774, 776, 778, 780, 782] (by decide +kernel) (by decide +kernel)
def ct_X4_pay : List (Instr × Nat) := [(.invokestatic 127, 2), (.invokevirtual 62, 3), (.invokevirtual 69, 3), (.invokevirtual 75, 3)]
abbrev rm_X4_pay : Room := { frames := 2, cells := 0, slots := 0, locals := 46 }
def b_X4_pay_0 : List wAn := [(.iconst 0, 1, 0, 0, 0), (.istore_n 3, 1, 0, 0, 0)]
def b_X4_pay_2 : List wAn := [(.iload_n 3, 1, 0, 0, 0), (.aload_n 0, 1, 0, 0, 0), (.getfield 26, 3, 0, 4, 10), (.arraylength, 1, 6, 0, 0), (.if_icmp .ge 17, 3, 25, 0, 0), (.aload_n 0, 1, 0, 0, 0), (.getfield 26, 3, 0, 4, 10), (.iload_n 3, 1, 0, 0, 0), (.ldc 120, 2, 1000000, 0, 0), (.iastore, 1, 6, 0, 0), (.iinc 3 1, 3, 0, 0, 0), (.goto (-20), 3, 2, 0, 0)]
def b_X4_pay_25 : List wAn := [(.aload_n 0, 1, 0, 0, 0), (.getfield 26, 3, 0, 4, 10), (.iload_n 1, 1, 0, 0, 0), (.iload_n 2, 1, 0, 0, 0), (.invokestatic 127, 3, 0, 1, 2), (.iconst 0, 1, 0, 0, 0), (.iastore, 1, 6, 0, 0), (.iload_n 2, 1, 0, 0, 0), (.istore_n 3, 1, 0, 0, 0)]
def b_X4_pay_38 : List wAn := [(.iload_n 3, 1, 0, 0, 0), (.sipush 1539, 3, 0, 0, 0), (.if_icmp .gt 210, 3, 252, 0, 0), (.iconst 0, 1, 0, 0, 0), (.istore 4, 2, 0, 0, 0)]
def b_X4_pay_48 : List wAn := [(.iload 4, 2, 0, 0, 0), (.bipush 8, 2, 0, 0, 0), (.if_icmp .ge 72, 3, 124, 0, 0), (.iload_n 3, 1, 0, 0, 0), (.iload_n 2, 1, 0, 0, 0), (.if_icmp .le 67, 3, 124, 0, 0), (.aload_n 0, 1, 0, 0, 0), (.getfield 26, 3, 0, 4, 10), (.iload 4, 2, 0, 0, 0), (.iload_n 3, 1, 0, 0, 0), (.iconst 1, 1, 0, 0, 0), (.isub, 1, 0, 0, 0), (.invokestatic 127, 3, 0, 1, 2), (.iaload, 1, 6, 0, 0), (.istore 5, 2, 0, 0, 0), (.aload_n 0, 1, 0, 0, 0), (.getfield 26, 3, 0, 4, 10), (.iload 4, 2, 0, 0, 0), (.iload_n 3, 1, 0, 0, 0), (.invokestatic 127, 3, 0, 1, 2), (.iload 5, 2, 0, 0, 0), (.aload_n 0, 1, 0, 0, 0), (.getfield 26, 3, 0, 4, 10), (.iload 4, 2, 0, 0, 0), (.iload_n 3, 1, 0, 0, 0), (.invokestatic 127, 3, 0, 1, 2), (.iaload, 1, 6, 0, 0), (.if_icmp .ge 8, 3, 106, 0, 0), (.iload 5, 2, 0, 0, 0), (.goto 14, 3, 117, 0, 0)]
def b_X4_pay_106 : List wAn := [(.aload_n 0, 1, 0, 0, 0), (.getfield 26, 3, 0, 4, 10), (.iload 4, 2, 0, 0, 0), (.iload_n 3, 1, 0, 0, 0), (.invokestatic 127, 3, 0, 1, 2), (.iaload, 1, 6, 0, 0)]
def b_X4_pay_117 : List wAn := [(.iastore, 1, 6, 0, 0), (.iinc 4 1, 3, 0, 0, 0), (.goto (-73), 3, 48, 0, 0)]
def b_X4_pay_124 : List wAn := [(.iconst 0, 1, 0, 0, 0), (.istore 4, 2, 0, 0, 0)]
def b_X4_pay_127 : List wAn := [(.iload 4, 2, 0, 0, 0), (.aload_n 0, 1, 0, 0, 0), (.getfield 7, 3, 0, 4, 0), (.iconst 2, 1, 0, 0, 0), (.iaload, 1, 1, 0, 0), (.if_icmp .ge 111, 3, 246, 0, 0), (.aload_n 0, 1, 0, 0, 0), (.getfield 26, 3, 0, 4, 10), (.aload_n 0, 1, 0, 0, 0), (.iload 4, 2, 0, 0, 0), (.iconst 0, 1, 0, 0, 0), (.invokevirtual 62, 3, 1, 0, 3), (.iload_n 3, 1, 0, 0, 0), (.invokestatic 127, 3, 0, 1, 2), (.iaload, 1, 6, 0, 0), (.istore 5, 2, 0, 0, 0), (.iload 5, 2, 0, 0, 0), (.ldc 120, 2, 1000000, 0, 0), (.if_icmp .eq 80, 3, 240, 0, 0), (.aload_n 0, 1, 0, 0, 0), (.iload 4, 2, 0, 0, 0), (.iload_n 3, 1, 0, 0, 0), (.invokevirtual 69, 3, 2, 0, 3), (.ifCond .ne 6, 3, 176, 0, 0), (.goto 67, 3, 240, 0, 0)]
def b_X4_pay_176 : List wAn := [(.aload_n 0, 1, 0, 0, 0), (.iload 4, 2, 0, 0, 0), (.iconst 1, 1, 0, 0, 0), (.invokevirtual 62, 3, 1, 0, 3), (.iload_n 3, 1, 0, 0, 0), (.aload_n 0, 1, 0, 0, 0), (.iload 4, 2, 0, 0, 0), (.iconst 4, 1, 0, 0, 0), (.invokevirtual 62, 3, 1, 0, 3), (.iadd, 1, 0, 0, 0), (.invokestatic 127, 3, 0, 1, 2), (.istore 6, 2, 0, 0, 0), (.iload 5, 2, 0, 0, 0), (.aload_n 0, 1, 0, 0, 0), (.iload 4, 2, 0, 0, 0), (.iload_n 3, 1, 0, 0, 0), (.invokevirtual 75, 3, 3, 0, 3), (.iadd, 1, 0, 0, 0), (.istore 7, 2, 0, 0, 0), (.aload_n 0, 1, 0, 0, 0), (.getfield 26, 3, 0, 4, 10), (.iload 6, 2, 0, 0, 0), (.iload 7, 2, 0, 0, 0), (.aload_n 0, 1, 0, 0, 0), (.getfield 26, 3, 0, 4, 10), (.iload 6, 2, 0, 0, 0), (.iaload, 1, 6, 0, 0), (.if_icmp .ge 8, 3, 232, 0, 0), (.iload 7, 2, 0, 0, 0), (.goto 10, 3, 239, 0, 0)]
def b_X4_pay_232 : List wAn := [(.aload_n 0, 1, 0, 0, 0), (.getfield 26, 3, 0, 4, 10), (.iload 6, 2, 0, 0, 0), (.iaload, 1, 6, 0, 0)]
def b_X4_pay_239 : List wAn := [(.iastore, 1, 6, 0, 0)]
def b_X4_pay_240 : List wAn := [(.iinc 4 1, 3, 0, 0, 0), (.goto (-116), 3, 127, 0, 0)]
def b_X4_pay_246 : List wAn := [(.iinc 3 1, 3, 0, 0, 0), (.goto (-211), 3, 38, 0, 0)]
def b_X4_pay_252 : List wAn := [(.return_, 1, 0, 0, 0)]
def q_X4_pay : List (Nat × List wAn) := [(0, b_X4_pay_0), (2, b_X4_pay_2), (25, b_X4_pay_25), (38, b_X4_pay_38), (48, b_X4_pay_48), (106, b_X4_pay_106), (117, b_X4_pay_117), (124, b_X4_pay_124), (127, b_X4_pay_127), (176, b_X4_pay_176), (232, b_X4_pay_232), (239, b_X4_pay_239), (240, b_X4_pay_240), (246, b_X4_pay_246), (252, b_X4_pay_252)]
abbrev ck_X4_pay : List wAn → Nat → Bool := w_ckB o_X4_pay RX4 vwCl 8 cX4_pay ct_X4_pay
theorem cq_X4_pay : q_X4_pay.all (fun q => ck_X4_pay q.2 q.1) = true := by decide +kernel
def o_X4_cheapest : List Cond := [.fieldLink RX4 26 RX4 "coins" "[I", .constant RX4 120 (ii 1000000), .methodLink RX4 44 yX4_isIsland, .static yX4_isIsland, .initialized RX4, .code yX4_isIsland cX4_isIsland 1 (some .boolean), .methodLink RX4 29 yX4_in, .static yX4_in, .code yX4_in cX4_in 3 (some .boolean), .methodLink RX4 40 yX4_refused, .instanceMethod yX4_refused, .selects RX4 yX4_refused yX4_refused, .code yX4_refused cX4_refused 4 (some .boolean), .methodLink RX4 130 yX4_pay, .instanceMethod yX4_pay, .selects RX4 yX4_pay yX4_pay, .code yX4_pay cX4_pay 8 none, .methodLink RX4 127 yX4_cellOf, .static yX4_cellOf, .code yX4_cellOf cX4_cellOf 2 (some .int)] ++ wsX40
theorem oi_X4_cheapest : ∀ w ∈ o_X4_cheapest, w ∈ wGT := wGT_of _ [761, 963, 805, 806, 57, 807, 802, 803, 804, 794, 796, 29, 797, 973, 975, 49, 976, 977, 978, 979, 762, 764, 766, 768, 770, 772, 774, 776, 778, 780, 782] (by decide +kernel) (by decide +kernel)
def ct_X4_cheapest : List (Instr × Nat) := [(.invokestatic 44, 1), (.invokestatic 29, 3), (.invokevirtual 40, 4), (.invokevirtual 130, 3), (.invokestatic 127, 2)]
abbrev rm_X4_cheapest : Room := { frames := 3, cells := 0, slots := 0, locals := 73 }
def b_X4_cheapest_0 : List wAn := [(.aload_n 0, 1, 0, 0, 0), (.iload_n 1, 1, 0, 0, 0), (.invokestatic 44, 3, 0, 1, 1), (.ifCond .eq 10, 3, 15, 0, 0), (.iload_n 2, 1, 0, 0, 0), (.invokestatic 44, 3, 0, 1, 1), (.ifCond .ne 7, 3, 19, 0, 0)]
def b_X4_cheapest_15 : List wAn := [(.iconst 1, 1, 0, 0, 0), (.goto 4, 3, 20, 0, 0)]
def b_X4_cheapest_19 : List wAn := [(.iconst 0, 1, 0, 0, 0)]
def b_X4_cheapest_20 : List wAn := [(.iload_n 3, 1, 0, 0, 0), (.iconst 0, 1, 0, 0, 0), (.sipush 1439, 3, 0, 0, 0), (.invokestatic 29, 3, 1, 1, 3), (.ifCond .eq 15, 3, 43, 0, 0), (.iload 4, 2, 0, 0, 0), (.iload_n 3, 1, 0, 0, 0), (.sipush 1539, 3, 0, 0, 0), (.invokestatic 29, 3, 1, 1, 3), (.ifCond .ne 7, 3, 47, 0, 0)]
def b_X4_cheapest_43 : List wAn := [(.iconst 1, 1, 0, 0, 0), (.goto 4, 3, 48, 0, 0)]
def b_X4_cheapest_47 : List wAn := [(.iconst 0, 1, 0, 0, 0)]
def b_X4_cheapest_48 : List wAn := [(.iconst 0, 1, 0, 0, 0), (.invokevirtual 40, 3, 2, 0, 4), (.ifCond .eq 5, 3, 57, 0, 0), (.iconst 0, 1, 0, 0, 0), (.ireturn, 1, 0, 0, 0)]
def b_X4_cheapest_57 : List wAn := [(.aload_n 0, 1, 0, 0, 0), (.iload_n 1, 1, 0, 0, 0), (.iload_n 3, 1, 0, 0, 0), (.invokevirtual 130, 3, 3, 0, 3), (.aload_n 0, 1, 0, 0, 0), (.getfield 26, 3, 0, 4, 10), (.iload_n 2, 1, 0, 0, 0), (.iload 4, 2, 0, 0, 0), (.invokestatic 127, 3, 4, 1, 2), (.iaload, 1, 6, 0, 0), (.istore 5, 2, 0, 0, 0), (.iload 5, 2, 0, 0, 0), (.ldc 120, 2, 1000000, 0, 0), (.if_icmp .ne 7, 3, 87, 0, 0), (.iconst (-1), 1, 0, 0, 0), (.goto 5, 3, 89, 0, 0)]
def b_X4_cheapest_87 : List wAn := [(.iload 5, 2, 0, 0, 0)]
def b_X4_cheapest_89 : List wAn := [(.ireturn, 1, 0, 0, 0)]
def q_X4_cheapest : List (Nat × List wAn) := [(0, b_X4_cheapest_0), (15, b_X4_cheapest_15), (19, b_X4_cheapest_19), (20, b_X4_cheapest_20), (43, b_X4_cheapest_43), (47, b_X4_cheapest_47), (48, b_X4_cheapest_48), (57, b_X4_cheapest_57), (87, b_X4_cheapest_87), (89, b_X4_cheapest_89)]
abbrev ck_X4_cheapest : List wAn → Nat → Bool := w_ckB o_X4_cheapest RX4 vwCl 6 cX4_cheapest ct_X4_cheapest
theorem cq_X4_cheapest : q_X4_cheapest.all (fun q => ck_X4_cheapest q.2 q.1) = true := by decide +kernel
def o_X4_reach : List Cond := [.fieldLink RX4 26 RX4 "coins" "[I", .methodLink RX4 78 yX4_isPerson, .static yX4_isPerson, .initialized RX4, .code yX4_isPerson cX4_isPerson 1 (some .boolean), .methodLink RX4 40 yX4_refused, .instanceMethod yX4_refused, .selects RX4 yX4_refused yX4_refused, .code yX4_refused cX4_refused 4 (some .boolean), .methodLink RX4 81 yX4_ofPerson, .instanceMethod yX4_ofPerson, .selects RX4 yX4_ofPerson yX4_ofPerson, .code yX4_ofPerson cX4_ofPerson 3 (some .int), .methodLink RX4 130 yX4_pay, .instanceMethod yX4_pay, .selects RX4 yX4_pay yX4_pay, .code yX4_pay cX4_pay 8 none, .methodLink RX4 127 yX4_cellOf, .static yX4_cellOf, .code yX4_cellOf cX4_cellOf 2 (some .int)] ++ wsX40
theorem oi_X4_reach : ∀ w ∈ o_X4_reach, w ∈ wGT := wGT_of _ [761, 876, 877, 57, 878, 794, 796, 29, 797, 879, 881, 39, 882, 973, 975, 49, 976, 977, 978, 979, 762, 764, 766, 768, 770, 772, 774, 776, 778, 780, 782] (by decide +kernel) (by decide +kernel)
def ct_X4_reach : List (Instr × Nat) := [(.invokestatic 78, 1), (.invokevirtual 40, 4), (.invokevirtual 81, 3), (.invokevirtual 130, 3), (.invokestatic 127, 2)]
abbrev rm_X4_reach : Room := { frames := 3, cells := 0, slots := 0, locals := 73 }
def b_X4_reach_0 : List wAn := [(.aload_n 0, 1, 0, 0, 0), (.iload_n 1, 1, 0, 0, 0), (.invokestatic 78, 3, 0, 1, 1), (.ifCond .ne 7, 3, 12, 0, 0), (.iconst 1, 1, 0, 0, 0), (.goto 4, 3, 13, 0, 0)]
def b_X4_reach_12 : List wAn := [(.iconst 0, 1, 0, 0, 0)]
def b_X4_reach_13 : List wAn := [(.iconst 0, 1, 0, 0, 0), (.iconst 0, 1, 0, 0, 0), (.invokevirtual 40, 3, 1, 0, 4), (.ifCond .eq 5, 3, 23, 0, 0), (.iconst 0, 1, 0, 0, 0), (.ireturn, 1, 0, 0, 0)]
def b_X4_reach_23 : List wAn := [(.aload_n 0, 1, 0, 0, 0), (.aload_n 0, 1, 0, 0, 0), (.iload_n 1, 1, 0, 0, 0), (.iconst 0, 1, 0, 0, 0), (.invokevirtual 81, 3, 2, 0, 3), (.aload_n 0, 1, 0, 0, 0), (.iload_n 1, 1, 0, 0, 0), (.iconst 1, 1, 0, 0, 0), (.invokevirtual 81, 3, 2, 0, 3), (.invokevirtual 130, 3, 3, 0, 3), (.iconst 0, 1, 0, 0, 0), (.istore_n 2, 1, 0, 0, 0), (.iconst 0, 1, 0, 0, 0), (.istore_n 3, 1, 0, 0, 0)]
def b_X4_reach_43 : List wAn := [(.iload_n 3, 1, 0, 0, 0), (.bipush 8, 2, 0, 0, 0), (.if_icmp .ge 40, 3, 86, 0, 0), (.iload_n 2, 1, 0, 0, 0), (.aload_n 0, 1, 0, 0, 0), (.getfield 26, 3, 0, 4, 10), (.iload_n 3, 1, 0, 0, 0), (.sipush 1539, 3, 0, 0, 0), (.invokestatic 127, 3, 4, 1, 2), (.iaload, 1, 6, 0, 0), (.aload_n 0, 1, 0, 0, 0), (.iload_n 1, 1, 0, 0, 0), (.iconst 2, 1, 0, 0, 0), (.invokevirtual 81, 3, 2, 0, 3), (.if_icmp .gt 9, 3, 77, 0, 0), (.iconst 1, 1, 0, 0, 0), (.iload_n 3, 1, 0, 0, 0), (.ishl, 1, 0, 0, 0), (.goto 4, 3, 78, 0, 0)]
def b_X4_reach_77 : List wAn := [(.iconst 0, 1, 0, 0, 0)]
def b_X4_reach_78 : List wAn := [(.ior, 1, 0, 0, 0), (.istore_n 2, 1, 0, 0, 0), (.iinc 3 1, 3, 0, 0, 0), (.goto (-40), 3, 43, 0, 0)]
def b_X4_reach_86 : List wAn := [(.iload_n 2, 1, 0, 0, 0), (.ireturn, 1, 0, 0, 0)]
def q_X4_reach : List (Nat × List wAn) := [(0, b_X4_reach_0), (12, b_X4_reach_12), (13, b_X4_reach_13), (23, b_X4_reach_23), (43, b_X4_reach_43), (77, b_X4_reach_77), (78, b_X4_reach_78), (86, b_X4_reach_86)]
abbrev ck_X4_reach : List wAn → Nat → Bool := w_ckB o_X4_reach RX4 vwCl 4 cX4_reach ct_X4_reach
theorem cq_X4_reach : q_X4_reach.all (fun q => ck_X4_reach q.2 q.1) = true := by decide +kernel
def o_X4_lastLeaving : List Cond := [.methodLink RX4 69 yX4_leavesAt, .instanceMethod yX4_leavesAt, .selects RX4 yX4_leavesAt yX4_leavesAt, .initialized RX4, .code yX4_leavesAt cX4_leavesAt 4 (some .boolean)]
theorem oi_X4_lastLeaving : ∀ w ∈ o_X4_lastLeaving, w ∈ wGT := wGT_of _ [852, 854, 35, 57, 855] (by decide +kernel) (by decide +kernel)
def ct_X4_lastLeaving : List (Instr × Nat) := [(.invokevirtual 69, 3)]
abbrev rm_X4_lastLeaving : Room := { frames := 2, cells := 0, slots := 0, locals := 46 }
def b_X4_lastLeaving_0 : List wAn := [(.iload_n 2, 1, 0, 0, 0), (.sipush 1439, 3, 0, 0, 0), (.if_icmp .ge 7, 3, 11, 0, 0), (.iload_n 2, 1, 0, 0, 0), (.goto 6, 3, 14, 0, 0)]
def b_X4_lastLeaving_11 : List wAn := [(.sipush 1439, 3, 0, 0, 0)]
def b_X4_lastLeaving_14 : List wAn := [(.istore_n 3, 1, 0, 0, 0)]
def b_X4_lastLeaving_15 : List wAn := [(.iload_n 3, 1, 0, 0, 0), (.ifCond .lt 20, 3, 36, 0, 0), (.aload_n 0, 1, 0, 0, 0), (.iload_n 1, 1, 0, 0, 0), (.iload_n 3, 1, 0, 0, 0), (.invokevirtual 69, 3, 0, 0, 3), (.ifCond .eq 5, 3, 30, 0, 0), (.iload_n 3, 1, 0, 0, 0), (.ireturn, 1, 0, 0, 0)]
def b_X4_lastLeaving_30 : List wAn := [(.iinc 3 (-1), 3, 0, 0, 0), (.goto (-18), 3, 15, 0, 0)]
def b_X4_lastLeaving_36 : List wAn := [(.iconst (-1), 1, 0, 0, 0), (.ireturn, 1, 0, 0, 0)]
def q_X4_lastLeaving : List (Nat × List wAn) := [(0, b_X4_lastLeaving_0), (11, b_X4_lastLeaving_11), (14, b_X4_lastLeaving_14), (15, b_X4_lastLeaving_15), (30, b_X4_lastLeaving_30), (36, b_X4_lastLeaving_36)]
abbrev ck_X4_lastLeaving : List wAn → Nat → Bool := w_ckB o_X4_lastLeaving RX4 vwCl 4 cX4_lastLeaving ct_X4_lastLeaving
theorem cq_X4_lastLeaving : q_X4_lastLeaving.all (fun q => ck_X4_lastLeaving q.2 q.1) = true := by decide +kernel
def o_X4_lastStart : List Cond := [.fieldLink RX4 23 RX4 "best" "[I", .fieldLink RX4 7 RX4 "row" "[I", .methodLink RX4 44 yX4_isIsland, .static yX4_isIsland, .initialized RX4, .code yX4_isIsland cX4_isIsland 1 (some .boolean), .methodLink RX4 29 yX4_in, .static yX4_in, .code yX4_in cX4_in 3 (some .boolean), .methodLink RX4 40 yX4_refused, .instanceMethod yX4_refused, .selects RX4 yX4_refused yX4_refused, .code yX4_refused cX4_refused 4 (some .boolean), .methodLink RX4 62 yX4_of, .instanceMethod yX4_of, .selects RX4 yX4_of yX4_of, .code yX4_of cX4_of 3 (some .int), .methodLink RX4 133 yX4_lastLeaving, .instanceMethod yX4_lastLeaving, .selects RX4 yX4_lastLeaving yX4_lastLeaving, .code yX4_lastLeaving cX4_lastLeaving 4 (some .int)] ++ wsX40
theorem oi_X4_lastStart : ∀ w ∈ o_X4_lastStart, w ∈ wGT := wGT_of _ [760, 751, 805, 806, 57, 807, 802, 803, 804, 794, 796, 29, 797, 856, 858, 36, 859, 988, 990, 50, 991, 762, 764, 766, 768, 770, 772, 774, 776, 778, 780, 782] (by decide +kernel) (by decide +kernel)
def ct_X4_lastStart : List (Instr × Nat) := [(.invokestatic 44, 1), (.invokestatic 29, 3), (.invokevirtual 40, 4), (.invokevirtual 62, 3), (.invokevirtual 133, 3)]
abbrev rm_X4_lastStart : Room := { frames := 3, cells := 0, slots := 0, locals := 69 }
def b_X4_lastStart_0 : List wAn := [(.aload_n 0, 1, 0, 0, 0), (.iload_n 1, 1, 0, 0, 0), (.invokestatic 44, 3, 0, 1, 1), (.ifCond .eq 10, 3, 15, 0, 0), (.iload_n 2, 1, 0, 0, 0), (.invokestatic 44, 3, 0, 1, 1), (.ifCond .ne 7, 3, 19, 0, 0)]
def b_X4_lastStart_15 : List wAn := [(.iconst 1, 1, 0, 0, 0), (.goto 4, 3, 20, 0, 0)]
def b_X4_lastStart_19 : List wAn := [(.iconst 0, 1, 0, 0, 0)]
def b_X4_lastStart_20 : List wAn := [(.iload_n 1, 1, 0, 0, 0), (.iload_n 2, 1, 0, 0, 0), (.if_icmp .eq 14, 3, 36, 0, 0), (.iload_n 3, 1, 0, 0, 0), (.iconst 0, 1, 0, 0, 0), (.sipush 1539, 3, 0, 0, 0), (.invokestatic 29, 3, 1, 1, 3), (.ifCond .ne 7, 3, 40, 0, 0)]
def b_X4_lastStart_36 : List wAn := [(.iconst 1, 1, 0, 0, 0), (.goto 4, 3, 41, 0, 0)]
def b_X4_lastStart_40 : List wAn := [(.iconst 0, 1, 0, 0, 0)]
def b_X4_lastStart_41 : List wAn := [(.iconst 0, 1, 0, 0, 0), (.invokevirtual 40, 3, 2, 0, 4), (.ifCond .eq 5, 3, 50, 0, 0), (.iconst 0, 1, 0, 0, 0), (.ireturn, 1, 0, 0, 0)]
def b_X4_lastStart_50 : List wAn := [(.iconst 0, 1, 0, 0, 0), (.istore 4, 2, 0, 0, 0)]
def b_X4_lastStart_53 : List wAn := [(.iload 4, 2, 0, 0, 0), (.bipush 8, 2, 0, 0, 0), (.if_icmp .ge 27, 3, 84, 0, 0), (.aload_n 0, 1, 0, 0, 0), (.getfield 23, 3, 0, 4, 9), (.iload 4, 2, 0, 0, 0), (.iload 4, 2, 0, 0, 0), (.iload_n 2, 1, 0, 0, 0), (.if_icmp .ne 7, 3, 76, 0, 0), (.iload_n 3, 1, 0, 0, 0), (.goto 4, 3, 77, 0, 0)]
def b_X4_lastStart_76 : List wAn := [(.iconst (-1), 1, 0, 0, 0)]
def b_X4_lastStart_77 : List wAn := [(.iastore, 1, 5, 0, 0), (.iinc 4 1, 3, 0, 0, 0), (.goto (-28), 3, 53, 0, 0)]
def b_X4_lastStart_84 : List wAn := [(.iconst 1, 1, 0, 0, 0), (.istore 4, 2, 0, 0, 0)]
def b_X4_lastStart_87 : List wAn := [(.iload 4, 2, 0, 0, 0), (.ifCond .eq 111, 3, 200, 0, 0), (.iconst 0, 1, 0, 0, 0), (.istore 4, 2, 0, 0, 0), (.iconst 0, 1, 0, 0, 0), (.istore 5, 2, 0, 0, 0)]
def b_X4_lastStart_98 : List wAn := [(.iload 5, 2, 0, 0, 0), (.aload_n 0, 1, 0, 0, 0), (.getfield 7, 3, 0, 4, 0), (.iconst 2, 1, 0, 0, 0), (.iaload, 1, 1, 0, 0), (.if_icmp .ge 91, 3, 197, 0, 0), (.aload_n 0, 1, 0, 0, 0), (.getfield 23, 3, 0, 4, 9), (.aload_n 0, 1, 0, 0, 0), (.iload 5, 2, 0, 0, 0), (.iconst 1, 1, 0, 0, 0), (.invokevirtual 62, 3, 3, 0, 3), (.iaload, 1, 5, 0, 0), (.iconst (-1), 1, 0, 0, 0), (.if_icmp .ne 7, 3, 129, 0, 0), (.iconst (-1), 1, 0, 0, 0), (.goto 29, 3, 155, 0, 0)]
def b_X4_lastStart_129 : List wAn := [(.aload_n 0, 1, 0, 0, 0), (.iload 5, 2, 0, 0, 0), (.aload_n 0, 1, 0, 0, 0), (.getfield 23, 3, 0, 4, 9), (.aload_n 0, 1, 0, 0, 0), (.iload 5, 2, 0, 0, 0), (.iconst 1, 1, 0, 0, 0), (.invokevirtual 62, 3, 3, 0, 3), (.iaload, 1, 5, 0, 0), (.aload_n 0, 1, 0, 0, 0), (.iload 5, 2, 0, 0, 0), (.iconst 4, 1, 0, 0, 0), (.invokevirtual 62, 3, 3, 0, 3), (.isub, 1, 0, 0, 0), (.invokevirtual 133, 3, 4, 0, 3)]
def b_X4_lastStart_155 : List wAn := [(.istore 6, 2, 0, 0, 0), (.iload 6, 2, 0, 0, 0), (.aload_n 0, 1, 0, 0, 0), (.getfield 23, 3, 0, 4, 9), (.aload_n 0, 1, 0, 0, 0), (.iload 5, 2, 0, 0, 0), (.iconst 0, 1, 0, 0, 0), (.invokevirtual 62, 3, 3, 0, 3), (.iaload, 1, 5, 0, 0), (.if_icmp .le 20, 3, 191, 0, 0), (.aload_n 0, 1, 0, 0, 0), (.getfield 23, 3, 0, 4, 9), (.aload_n 0, 1, 0, 0, 0), (.iload 5, 2, 0, 0, 0), (.iconst 0, 1, 0, 0, 0), (.invokevirtual 62, 3, 3, 0, 3), (.iload 6, 2, 0, 0, 0), (.iastore, 1, 5, 0, 0), (.iconst 1, 1, 0, 0, 0), (.istore 4, 2, 0, 0, 0)]
def b_X4_lastStart_191 : List wAn := [(.iinc 5 1, 3, 0, 0, 0), (.goto (-96), 3, 98, 0, 0)]
def b_X4_lastStart_197 : List wAn := [(.goto (-110), 3, 87, 0, 0)]
def b_X4_lastStart_200 : List wAn := [(.aload_n 0, 1, 0, 0, 0), (.getfield 23, 3, 0, 4, 9), (.iload_n 1, 1, 0, 0, 0), (.iaload, 1, 5, 0, 0), (.ireturn, 1, 0, 0, 0)]
def q_X4_lastStart : List (Nat × List wAn) := [(0, b_X4_lastStart_0), (15, b_X4_lastStart_15), (19, b_X4_lastStart_19), (20, b_X4_lastStart_20), (36, b_X4_lastStart_36), (40, b_X4_lastStart_40), (41, b_X4_lastStart_41), (50, b_X4_lastStart_50), (53, b_X4_lastStart_53), (76, b_X4_lastStart_76), (77, b_X4_lastStart_77), (84, b_X4_lastStart_84), (87, b_X4_lastStart_87), (98, b_X4_lastStart_98), (129, b_X4_lastStart_129), (155, b_X4_lastStart_155), (191, b_X4_lastStart_191), (197, b_X4_lastStart_197), (200, b_X4_lastStart_200)]
abbrev ck_X4_lastStart : List wAn → Nat → Bool := w_ckB o_X4_lastStart RX4 vwCl 7 cX4_lastStart ct_X4_lastStart
theorem cq_X4_lastStart : q_X4_lastStart.all (fun q => ck_X4_lastStart q.2 q.1) = true := by decide +kernel
def o_X4_more : List Cond := [.constantLong RX4 136 (Int64.ofNat 31)]
theorem oi_X4_more : ∀ w ∈ o_X4_more, w ∈ wGT := wGT_of _ [1001] (by decide +kernel) (by decide +kernel)
def ct_X4_more : List (Instr × Nat) := []
abbrev rm_X4_more : Room := { frames := 0, cells := 0, slots := 0, locals := 0 }
def b_X4_more_0 : List wAn := [(.ldc2_w 136, 3, 31, 0, 0), (.lload_n 0, 1, 0, 0, 0), (.lmul, 1, 0, 0, 0), (.lload_n 2, 1, 0, 0, 0), (.ladd, 1, 0, 0, 0), (.lreturn, 1, 0, 0, 0)]
def q_X4_more : List (Nat × List wAn) := [(0, b_X4_more_0)]
abbrev ck_X4_more : List wAn → Nat → Bool := w_ckB o_X4_more RX4 vwCl 4 cX4_more ct_X4_more
theorem cq_X4_more : q_X4_more.all (fun q => ck_X4_more q.2 q.1) = true := by decide +kernel
def o_X4_hashOfFerries : List Cond := [.fieldLink RX4 7 RX4 "row" "[I", .methodLink RX4 62 yX4_of, .instanceMethod yX4_of, .selects RX4 yX4_of yX4_of, .initialized RX4, .code yX4_of cX4_of 3 (some .int), .methodLink RX4 138 yX4_more, .static yX4_more, .code yX4_more cX4_more 4 (some .long), .methodLink RX4 72 yX4_nextLeaving, .instanceMethod yX4_nextLeaving, .selects RX4 yX4_nextLeaving yX4_nextLeaving, .code yX4_nextLeaving cX4_nextLeaving 4 (some .int), .methodLink RX4 75 yX4_price, .instanceMethod yX4_price, .selects RX4 yX4_price yX4_price, .code yX4_price cX4_price 3 (some .int)] ++ wsX40
theorem oi_X4_hashOfFerries : ∀ w ∈ o_X4_hashOfFerries, w ∈ wGT := wGT_of _ [751, 856, 858, 36, 57, 859, 998, 999, 1000, 848, 850, 34, 851, 868, 870, 38, 871, 762, 764, 766, 768, 770, 772, 774, 776, 778, 780, 782] (by decide +kernel) (by decide +kernel)
def ct_X4_hashOfFerries : List (Instr × Nat) := [(.invokevirtual 62, 3), (.invokestatic 138, 2), (.invokevirtual 72, 3), (.invokevirtual 75, 3)]
abbrev rm_X4_hashOfFerries : Room := { frames := 3, cells := 0, slots := 0, locals := 69 }
def b_X4_hashOfFerries_0 : List wAn := [(.lload_n 1, 1, 0, 0, 0), (.lstore_n 3, 1, 0, 0, 0), (.iconst 0, 1, 0, 0, 0), (.istore 5, 2, 0, 0, 0)]
def b_X4_hashOfFerries_5 : List wAn := [(.iload 5, 2, 0, 0, 0), (.aload_n 0, 1, 0, 0, 0), (.getfield 7, 3, 0, 4, 0), (.iconst 2, 1, 0, 0, 0), (.iaload, 1, 1, 0, 0), (.if_icmp .ge 67, 3, 80, 0, 0), (.iconst 0, 1, 0, 0, 0), (.istore 6, 2, 0, 0, 0)]
def b_X4_hashOfFerries_19 : List wAn := [(.iload 6, 2, 0, 0, 0), (.bipush 9, 2, 0, 0, 0), (.if_icmp .ge 23, 3, 46, 0, 0), (.lload_n 3, 1, 0, 0, 0), (.aload_n 0, 1, 0, 0, 0), (.iload 5, 2, 0, 0, 0), (.iload 6, 2, 0, 0, 0), (.invokevirtual 62, 3, 0, 0, 3), (.i2l, 1, 0, 0, 0), (.invokestatic 138, 3, 1, 1, 2), (.lstore_n 3, 1, 0, 0, 0), (.iinc 6 1, 3, 0, 0, 0), (.goto (-24), 3, 19, 0, 0)]
def b_X4_hashOfFerries_46 : List wAn := [(.lload_n 3, 1, 0, 0, 0), (.aload_n 0, 1, 0, 0, 0), (.iload 5, 2, 0, 0, 0), (.bipush 60, 2, 0, 0, 0), (.invokevirtual 72, 3, 2, 0, 3), (.i2l, 1, 0, 0, 0), (.invokestatic 138, 3, 1, 1, 2), (.lstore_n 3, 1, 0, 0, 0), (.lload_n 3, 1, 0, 0, 0), (.aload_n 0, 1, 0, 0, 0), (.iload 5, 2, 0, 0, 0), (.bipush 60, 2, 0, 0, 0), (.invokevirtual 75, 3, 3, 0, 3), (.i2l, 1, 0, 0, 0), (.invokestatic 138, 3, 1, 1, 2), (.lstore_n 3, 1, 0, 0, 0), (.iinc 5 1, 3, 0, 0, 0), (.goto (-72), 3, 5, 0, 0)]
def b_X4_hashOfFerries_80 : List wAn := [(.lload_n 3, 1, 0, 0, 0), (.lreturn, 1, 0, 0, 0)]
def q_X4_hashOfFerries : List (Nat × List wAn) := [(0, b_X4_hashOfFerries_0), (5, b_X4_hashOfFerries_5), (19, b_X4_hashOfFerries_19), (46, b_X4_hashOfFerries_46), (80, b_X4_hashOfFerries_80)]
abbrev ck_X4_hashOfFerries : List wAn → Nat → Bool := w_ckB o_X4_hashOfFerries RX4 vwCl 7 cX4_hashOfFerries ct_X4_hashOfFerries
theorem cq_X4_hashOfFerries : q_X4_hashOfFerries.all (fun q => ck_X4_hashOfFerries q.2 q.1) = true := by decide +kernel
def o_X4_digest : List Cond := [.constantLong RX4 142 (Int64.ofNat 3301), .fieldLink RX4 7 RX4 "row" "[I", .fieldLink RX4 87 RX4 "length" "I", .fieldLink RX4 16 RX4 "buffer" "[C", .methodLink RX4 144 yX4_count, .instanceMethod yX4_count, .selects RX4 yX4_count yX4_count, .initialized RX4, .code yX4_count cX4_count 2 (some .int), .methodLink RX4 138 yX4_more, .static yX4_more, .code yX4_more cX4_more 4 (some .long), .methodLink RX4 147 yX4_hashOfFerries, .instanceMethod yX4_hashOfFerries, .selects RX4 yX4_hashOfFerries yX4_hashOfFerries, .code yX4_hashOfFerries cX4_hashOfFerries 7 (some .long), .methodLink RX4 81 yX4_ofPerson, .instanceMethod yX4_ofPerson, .selects RX4 yX4_ofPerson yX4_ofPerson, .code yX4_ofPerson cX4_ofPerson 3 (some .int), .methodLink RX4 151 yX4_reach, .instanceMethod yX4_reach, .selects RX4 yX4_reach yX4_reach, .code yX4_reach cX4_reach 4 (some .int), .methodLink RX4 154 yX4_soonest, .instanceMethod yX4_soonest, .selects RX4 yX4_soonest yX4_soonest, .code yX4_soonest cX4_soonest 4 (some .int), .methodLink RX4 158 yX4_cheapest, .instanceMethod yX4_cheapest, .selects RX4 yX4_cheapest yX4_cheapest, .code yX4_cheapest cX4_cheapest 6 (some .int), .methodLink RX4 162 yX4_lastStart, .instanceMethod yX4_lastStart, .selects RX4 yX4_lastStart yX4_lastStart, .code yX4_lastStart cX4_lastStart 7 (some .int), .methodLink RX4 165 yX4_joined, .instanceMethod yX4_joined, .selects RX4 yX4_joined yX4_joined, .code yX4_joined cX4_joined 4 (some .double), .methodLink RX4 169 yJxe99ae_doubleToLongBits_ccdee, .static yJxe99ae_doubleToLongBits_ccdee, .initialized RJxe99ae, .code yJxe99ae_doubleToLongBits_ccdee cJxe99ae_doubleToLongBits_ccdee 2 (some .long)] ++ wsX40
theorem oi_X4_digest : ∀ w ∈ o_X4_digest, w ∈ wGT := wGT_of _ [996, 751, 756, 755, 997, 948, 949, 57, 950, 998, 999, 1000, 1002, 1004, 51, 1005, 879, 881, 39, 882, 1006, 981, 982, 983, 1007, 956, 957, 958, 1008, 970, 971, 972, 1009, 985, 986, 987, 1010, 965, 966, 967, 1011, 1012, 68, 1013, 762, 764, 766, 768, 770, 772, 774, 776, 778, 780, 782] (by decide +kernel) (by decide +kernel)
def ct_X4_digest : List (Instr × Nat) := [(.invokevirtual 144, 2), (.invokestatic 138, 2), (.invokevirtual 147, 2), (.invokevirtual 81, 3), (.invokevirtual 151, 2), (.invokevirtual 154, 4), (.invokevirtual 158, 5), (.invokevirtual 162, 4), (.invokevirtual 165, 1), (.invokestatic 169, 1)]
abbrev rm_X4_digest : Room := { frames := 5, cells := 0, slots := 0, locals := 118 }
def b_X4_digest_0 : List wAn := [(.ldc2_w 142, 3, 3301, 0, 0), (.lstore_n 1, 1, 0, 0, 0), (.iconst 0, 1, 0, 0, 0), (.istore_n 3, 1, 0, 0, 0)]
def b_X4_digest_6 : List wAn := [(.iload_n 3, 1, 0, 0, 0), (.iconst 5, 1, 0, 0, 0), (.if_icmp .ge 20, 3, 28, 0, 0), (.lload_n 1, 1, 0, 0, 0), (.aload_n 0, 1, 0, 0, 0), (.iload_n 3, 1, 0, 0, 0), (.invokevirtual 144, 3, 0, 0, 2), (.i2l, 1, 0, 0, 0), (.invokestatic 138, 3, 1, 1, 2), (.lstore_n 1, 1, 0, 0, 0), (.iinc 3 1, 3, 0, 0, 0), (.goto (-19), 3, 6, 0, 0)]
def b_X4_digest_28 : List wAn := [(.lload_n 1, 1, 0, 0, 0), (.aload_n 0, 1, 0, 0, 0), (.getfield 7, 3, 0, 4, 0), (.iconst 0, 1, 0, 0, 0), (.iaload, 1, 1, 0, 0), (.i2l, 1, 0, 0, 0), (.invokestatic 138, 3, 1, 1, 2), (.lstore_n 1, 1, 0, 0, 0), (.lload_n 1, 1, 0, 0, 0), (.aload_n 0, 1, 0, 0, 0), (.getfield 7, 3, 0, 4, 0), (.iconst 1, 1, 0, 0, 0), (.iaload, 1, 1, 0, 0), (.i2l, 1, 0, 0, 0), (.invokestatic 138, 3, 1, 1, 2), (.lstore_n 1, 1, 0, 0, 0), (.aload_n 0, 1, 0, 0, 0), (.lload_n 1, 1, 0, 0, 0), (.invokevirtual 147, 3, 2, 0, 2), (.lstore_n 1, 1, 0, 0, 0), (.iconst 0, 1, 0, 0, 0), (.istore_n 3, 1, 0, 0, 0)]
def b_X4_digest_60 : List wAn := [(.iload_n 3, 1, 0, 0, 0), (.iconst 4, 1, 0, 0, 0), (.if_icmp .ge 48, 3, 110, 0, 0), (.iconst 0, 1, 0, 0, 0), (.istore 4, 2, 0, 0, 0)]
def b_X4_digest_68 : List wAn := [(.iload 4, 2, 0, 0, 0), (.iconst 5, 1, 0, 0, 0), (.if_icmp .ge 22, 3, 93, 0, 0), (.lload_n 1, 1, 0, 0, 0), (.aload_n 0, 1, 0, 0, 0), (.iload_n 3, 1, 0, 0, 0), (.iload 4, 2, 0, 0, 0), (.invokevirtual 81, 3, 3, 0, 3), (.i2l, 1, 0, 0, 0), (.invokestatic 138, 3, 1, 1, 2), (.lstore_n 1, 1, 0, 0, 0), (.iinc 4 1, 3, 0, 0, 0), (.goto (-22), 3, 68, 0, 0)]
def b_X4_digest_93 : List wAn := [(.lload_n 1, 1, 0, 0, 0), (.aload_n 0, 1, 0, 0, 0), (.iload_n 3, 1, 0, 0, 0), (.invokevirtual 151, 3, 4, 0, 2), (.i2l, 1, 0, 0, 0), (.invokestatic 138, 3, 1, 1, 2), (.lstore_n 1, 1, 0, 0, 0), (.iinc 3 1, 3, 0, 0, 0), (.goto (-47), 3, 60, 0, 0)]
def b_X4_digest_110 : List wAn := [(.iconst 1, 1, 0, 0, 0), (.istore_n 3, 1, 0, 0, 0)]
def b_X4_digest_112 : List wAn := [(.iload_n 3, 1, 0, 0, 0), (.bipush 8, 2, 0, 0, 0), (.if_icmp .ge 55, 3, 170, 0, 0), (.lload_n 1, 1, 0, 0, 0), (.aload_n 0, 1, 0, 0, 0), (.iconst 0, 1, 0, 0, 0), (.iload_n 3, 1, 0, 0, 0), (.bipush 30, 2, 0, 0, 0), (.invokevirtual 154, 3, 5, 0, 4), (.i2l, 1, 0, 0, 0), (.invokestatic 138, 3, 1, 1, 2), (.lstore_n 1, 1, 0, 0, 0), (.lload_n 1, 1, 0, 0, 0), (.aload_n 0, 1, 0, 0, 0), (.iconst 0, 1, 0, 0, 0), (.iload_n 3, 1, 0, 0, 0), (.bipush 30, 2, 0, 0, 0), (.sipush 400, 3, 0, 0, 0), (.invokevirtual 158, 3, 6, 0, 5), (.i2l, 1, 0, 0, 0), (.invokestatic 138, 3, 1, 1, 2), (.lstore_n 1, 1, 0, 0, 0), (.lload_n 1, 1, 0, 0, 0), (.aload_n 0, 1, 0, 0, 0), (.iconst 0, 1, 0, 0, 0), (.iload_n 3, 1, 0, 0, 0), (.sipush 600, 3, 0, 0, 0), (.invokevirtual 162, 3, 7, 0, 4), (.i2l, 1, 0, 0, 0), (.invokestatic 138, 3, 1, 1, 2), (.lstore_n 1, 1, 0, 0, 0), (.iinc 3 1, 3, 0, 0, 0), (.goto (-55), 3, 112, 0, 0)]
def b_X4_digest_170 : List wAn := [(.lload_n 1, 1, 0, 0, 0), (.aload_n 0, 1, 0, 0, 0), (.invokevirtual 165, 3, 8, 0, 1), (.invokestatic 169, 3, 9, 1, 1), (.invokestatic 138, 3, 1, 1, 2), (.lstore_n 1, 1, 0, 0, 0), (.lload_n 1, 1, 0, 0, 0), (.aload_n 0, 1, 0, 0, 0), (.getfield 87, 3, 0, 4, 5), (.i2l, 1, 0, 0, 0), (.invokestatic 138, 3, 1, 1, 2), (.lstore_n 1, 1, 0, 0, 0), (.iconst 0, 1, 0, 0, 0), (.istore_n 3, 1, 0, 0, 0)]
def b_X4_digest_194 : List wAn := [(.iload_n 3, 1, 0, 0, 0), (.aload_n 0, 1, 0, 0, 0), (.getfield 87, 3, 0, 4, 5), (.if_icmp .ge 21, 3, 220, 0, 0), (.lload_n 1, 1, 0, 0, 0), (.aload_n 0, 1, 0, 0, 0), (.getfield 16, 3, 0, 4, 4), (.iload_n 3, 1, 0, 0, 0), (.caload, 1, 3, 0, 0), (.i2l, 1, 0, 0, 0), (.invokestatic 138, 3, 1, 1, 2), (.lstore_n 1, 1, 0, 0, 0), (.iinc 3 1, 3, 0, 0, 0), (.goto (-23), 3, 194, 0, 0)]
def b_X4_digest_220 : List wAn := [(.lload_n 1, 1, 0, 0, 0), (.lreturn, 1, 0, 0, 0)]
def q_X4_digest : List (Nat × List wAn) := [(0, b_X4_digest_0), (6, b_X4_digest_6), (28, b_X4_digest_28), (60, b_X4_digest_60), (68, b_X4_digest_68), (93, b_X4_digest_93), (110, b_X4_digest_110), (112, b_X4_digest_112), (170, b_X4_digest_170), (194, b_X4_digest_194), (220, b_X4_digest_220)]
abbrev ck_X4_digest : List wAn → Nat → Bool := w_ckB o_X4_digest RX4 vwCl 5 cX4_digest ct_X4_digest
theorem cq_X4_digest : q_X4_digest.all (fun q => ck_X4_digest q.2 q.1) = true := by decide +kernel
def o_X0_size : List Cond := [.fieldLink RX0 18 RX0 "length" "I"] ++ wsX00
theorem oi_X0_size : ∀ w ∈ o_X0_size, w ∈ wGT := wGT_of _ [124, 129, 131, 133, 135, 137, 139, 141] (by decide +kernel) (by decide +kernel)
def ct_X0_size : List (Instr × Nat) := []
abbrev rm_X0_size : Room := { frames := 0, cells := 0, slots := 0, locals := 0 }
def b_X0_size_0 : List wAn := [(.aload_n 0, 1, 0, 0, 0), (.getfield 18, 3, 0, 0, 2), (.ireturn, 1, 0, 0, 0)]
def q_X0_size : List (Nat × List wAn) := [(0, b_X0_size_0)]
abbrev ck_X0_size : List wAn → Nat → Bool := w_ckB o_X0_size RX0 vwCl 1 cX0_size ct_X0_size
theorem cq_X0_size : q_X0_size.all (fun q => ck_X0_size q.2 q.1) = true := by decide +kernel
def o_X0_codeAt : List Cond := [.fieldLink RX0 11 RX0 "codes" "[I"] ++ wsX00
theorem oi_X0_codeAt : ∀ w ∈ o_X0_codeAt, w ∈ wGT := wGT_of _ [122, 129, 131, 133, 135, 137, 139, 141] (by decide +kernel) (by decide +kernel)
def ct_X0_codeAt : List (Instr × Nat) := []
abbrev rm_X0_codeAt : Room := { frames := 0, cells := 0, slots := 0, locals := 0 }
def b_X0_codeAt_0 : List wAn := [(.aload_n 0, 1, 0, 0, 0), (.getfield 11, 3, 0, 0, 0), (.iload_n 1, 1, 0, 0, 0), (.iaload, 1, 1, 0, 0), (.ireturn, 1, 0, 0, 0)]
def q_X0_codeAt : List (Nat × List wAn) := [(0, b_X0_codeAt_0)]
abbrev ck_X0_codeAt : List wAn → Nat → Bool := w_ckB o_X0_codeAt RX0 vwCl 2 cX0_codeAt ct_X0_codeAt
theorem cq_X0_codeAt : q_X0_codeAt.all (fun q => ck_X0_codeAt q.2 q.1) = true := by decide +kernel
def o_X0_add : List Cond := [.fieldLink RX0 18 RX0 "length" "I", .fieldLink RX0 11 RX0 "codes" "[I"] ++ wsX00
theorem oi_X0_add : ∀ w ∈ o_X0_add, w ∈ wGT := wGT_of _ [124, 122, 129, 131, 133, 135, 137, 139, 141] (by decide +kernel) (by decide +kernel)
def ct_X0_add : List (Instr × Nat) := []
abbrev rm_X0_add : Room := { frames := 0, cells := 0, slots := 0, locals := 0 }
def b_X0_add_0 : List wAn := [(.aload_n 0, 1, 0, 0, 0), (.getfield 18, 3, 0, 0, 2), (.bipush 60, 2, 0, 0, 0), (.if_icmp .ge 23, 3, 29, 0, 0), (.aload_n 0, 1, 0, 0, 0), (.getfield 11, 3, 0, 0, 0), (.aload_n 0, 1, 0, 0, 0), (.getfield 18, 3, 0, 0, 2), (.iload_n 1, 1, 0, 0, 0), (.iastore, 1, 1, 0, 0), (.aload_n 0, 1, 0, 0, 0), (.dup, 1, 0, 0, 0), (.getfield 18, 3, 0, 0, 2), (.iconst 1, 1, 0, 0, 0), (.iadd, 1, 0, 0, 0), (.putfield 18, 3, 0, 0, 2)]
def b_X0_add_29 : List wAn := [(.return_, 1, 0, 0, 0)]
def q_X0_add : List (Nat × List wAn) := [(0, b_X0_add_0), (29, b_X0_add_29)]
abbrev ck_X0_add : List wAn → Nat → Bool := w_ckB o_X0_add RX0 vwCl 2 cX0_add ct_X0_add
theorem cq_X0_add : q_X0_add.all (fun q => ck_X0_add q.2 q.1) = true := by decide +kernel
def o_X0_clear : List Cond := [.fieldLink RX0 18 RX0 "length" "I"] ++ wsX00
theorem oi_X0_clear : ∀ w ∈ o_X0_clear, w ∈ wGT := wGT_of _ [124, 129, 131, 133, 135, 137, 139, 141] (by decide +kernel) (by decide +kernel)
def ct_X0_clear : List (Instr × Nat) := []
abbrev rm_X0_clear : Room := { frames := 0, cells := 0, slots := 0, locals := 0 }
def b_X0_clear_0 : List wAn := [(.aload_n 0, 1, 0, 0, 0), (.iconst 0, 1, 0, 0, 0), (.putfield 18, 3, 0, 0, 2), (.return_, 1, 0, 0, 0)]
def q_X0_clear : List (Nat × List wAn) := [(0, b_X0_clear_0)]
abbrev ck_X0_clear : List wAn → Nat → Bool := w_ckB o_X0_clear RX0 vwCl 1 cX0_clear ct_X0_clear
theorem cq_X0_clear : q_X0_clear.all (fun q => ck_X0_clear q.2 q.1) = true := by decide +kernel
def o_X0_partCount : List Cond := [.fieldLink RX0 22 RX0 "part" "I"] ++ wsX00
theorem oi_X0_partCount : ∀ w ∈ o_X0_partCount, w ∈ wGT := wGT_of _ [125, 129, 131, 133, 135, 137, 139, 141] (by decide +kernel) (by decide +kernel)
def ct_X0_partCount : List (Instr × Nat) := []
abbrev rm_X0_partCount : Room := { frames := 0, cells := 0, slots := 0, locals := 0 }
def b_X0_partCount_0 : List wAn := [(.aload_n 0, 1, 0, 0, 0), (.getfield 22, 3, 0, 0, 3), (.iconst 1, 1, 0, 0, 0), (.iadd, 1, 0, 0, 0), (.ireturn, 1, 0, 0, 0)]
def q_X0_partCount : List (Nat × List wAn) := [(0, b_X0_partCount_0)]
abbrev ck_X0_partCount : List wAn → Nat → Bool := w_ckB o_X0_partCount RX0 vwCl 1 cX0_partCount ct_X0_partCount
theorem cq_X0_partCount : q_X0_partCount.all (fun q => ck_X0_partCount q.2 q.1) = true := by decide +kernel
def o_X0_number : List Cond := [.fieldLink RX0 15 RX0 "numbers" "[I"] ++ wsX00
theorem oi_X0_number : ∀ w ∈ o_X0_number, w ∈ wGT := wGT_of _ [123, 129, 131, 133, 135, 137, 139, 141] (by decide +kernel) (by decide +kernel)
def ct_X0_number : List (Instr × Nat) := []
abbrev rm_X0_number : Room := { frames := 0, cells := 0, slots := 0, locals := 0 }
def b_X0_number_0 : List wAn := [(.aload_n 0, 1, 0, 0, 0), (.getfield 15, 3, 0, 0, 1), (.iload_n 1, 1, 0, 0, 0), (.bipush 7, 2, 0, 0, 0), (.imul, 1, 0, 0, 0), (.iload_n 2, 1, 0, 0, 0), (.iadd, 1, 0, 0, 0), (.iaload, 1, 2, 0, 0), (.ireturn, 1, 0, 0, 0)]
def q_X0_number : List (Nat × List wAn) := [(0, b_X0_number_0)]
abbrev ck_X0_number : List wAn → Nat → Bool := w_ckB o_X0_number RX0 vwCl 3 cX0_number ct_X0_number
theorem cq_X0_number : q_X0_number.all (fun q => ck_X0_number q.2 q.1) = true := by decide +kernel
def o_X0_isComplete : List Cond := [.fieldLink RX0 18 RX0 "length" "I", .fieldLink RX0 25 RX0 "stage" "I", .fieldLink RX0 31 RX0 "value" "I", .methodLink RX0 34 yX0_read, .instanceMethod yX0_read, .selects RX0 yX0_read yX0_read, .initialized RX0, .code yX0_read cX0_read 2 (some .int)] ++ wsX00
theorem oi_X0_isComplete : ∀ w ∈ o_X0_isComplete, w ∈ wGT := wGT_of _ [124, 126, 128, 648, 180, 181, 56, 182, 129, 131, 133, 135, 137, 139, 141] (by decide +kernel) (by decide +kernel)
def ct_X0_isComplete : List (Instr × Nat) := [(.invokevirtual 34, 1)]
abbrev rm_X0_isComplete : Room := { frames := 5, cells := 0, slots := 0, locals := 105 }
def b_X0_isComplete_0 : List wAn := [(.aload_n 0, 1, 0, 0, 0), (.invokevirtual 34, 3, 0, 0, 1), (.aload_n 0, 1, 0, 0, 0), (.getfield 18, 3, 0, 0, 2), (.if_icmp .ne 32, 3, 40, 0, 0), (.aload_n 0, 1, 0, 0, 0), (.getfield 25, 3, 0, 0, 4), (.iconst 5, 1, 0, 0, 0), (.if_icmp .ne 11, 3, 27, 0, 0), (.aload_n 0, 1, 0, 0, 0), (.getfield 31, 3, 0, 0, 6), (.iconst (-1), 1, 0, 0, 0), (.if_icmp .ne 12, 3, 36, 0, 0)]
def b_X0_isComplete_27 : List wAn := [(.aload_n 0, 1, 0, 0, 0), (.getfield 25, 3, 0, 0, 4), (.bipush 6, 2, 0, 0, 0), (.if_icmp .ne 7, 3, 40, 0, 0)]
def b_X0_isComplete_36 : List wAn := [(.iconst 1, 1, 0, 0, 0), (.goto 4, 3, 41, 0, 0)]
def b_X0_isComplete_40 : List wAn := [(.iconst 0, 1, 0, 0, 0)]
def b_X0_isComplete_41 : List wAn := [(.ireturn, 1, 0, 0, 0)]
def q_X0_isComplete : List (Nat × List wAn) := [(0, b_X0_isComplete_0), (27, b_X0_isComplete_27), (36, b_X0_isComplete_36), (40, b_X0_isComplete_40), (41, b_X0_isComplete_41)]
abbrev ck_X0_isComplete : List wAn → Nat → Bool := w_ckB o_X0_isComplete RX0 vwCl 1 cX0_isComplete ct_X0_isComplete
theorem cq_X0_isComplete : q_X0_isComplete.all (fun q => ck_X0_isComplete q.2 q.1) = true := by decide +kernel
def o_X0_read : List Cond := [.fieldLink RX0 22 RX0 "part" "I", .fieldLink RX0 18 RX0 "length" "I", .fieldLink RX0 11 RX0 "codes" "[I", .methodLink RX0 38 yX0_beginPart, .instanceMethod yX0_beginPart, .selects RX0 yX0_beginPart yX0_beginPart, .initialized RX0, .code yX0_beginPart cX0_beginPart 1 none, .methodLink RX0 41 yX0_accepts, .instanceMethod yX0_accepts, .selects RX0 yX0_accepts yX0_accepts, .code yX0_accepts cX0_accepts 2 (some .boolean)] ++ wsX00
theorem oi_X0_read : ∀ w ∈ o_X0_read, w ∈ wGT := wGT_of _ [125, 124, 122, 183, 185, 0, 56, 186, 191, 193, 2, 194, 129, 131, 133, 135, 137, 139, 141] (by decide +kernel) (by decide +kernel)
def ct_X0_read : List (Instr × Nat) := [(.invokevirtual 38, 1), (.invokevirtual 41, 2)]
abbrev rm_X0_read : Room := { frames := 4, cells := 0, slots := 0, locals := 84 }
def b_X0_read_0 : List wAn := [(.aload_n 0, 1, 0, 0, 0), (.iconst 0, 1, 0, 0, 0), (.putfield 22, 3, 0, 0, 3), (.aload_n 0, 1, 0, 0, 0), (.invokevirtual 38, 3, 0, 0, 1), (.iconst 0, 1, 0, 0, 0), (.istore_n 1, 1, 0, 0, 0)]
def b_X0_read_11 : List wAn := [(.iload_n 1, 1, 0, 0, 0), (.aload_n 0, 1, 0, 0, 0), (.getfield 18, 3, 0, 0, 2), (.if_icmp .ge 24, 3, 40, 0, 0), (.aload_n 0, 1, 0, 0, 0), (.aload_n 0, 1, 0, 0, 0), (.getfield 11, 3, 0, 0, 0), (.iload_n 1, 1, 0, 0, 0), (.iaload, 1, 1, 0, 0), (.invokevirtual 41, 3, 1, 0, 2), (.ifCond .ne 5, 3, 34, 0, 0), (.iload_n 1, 1, 0, 0, 0), (.ireturn, 1, 0, 0, 0)]
def b_X0_read_34 : List wAn := [(.iinc 1 1, 3, 0, 0, 0), (.goto (-26), 3, 11, 0, 0)]
def b_X0_read_40 : List wAn := [(.aload_n 0, 1, 0, 0, 0), (.getfield 18, 3, 0, 0, 2), (.ireturn, 1, 0, 0, 0)]
def q_X0_read : List (Nat × List wAn) := [(0, b_X0_read_0), (11, b_X0_read_11), (34, b_X0_read_34), (40, b_X0_read_40)]
abbrev ck_X0_read : List wAn → Nat → Bool := w_ckB o_X0_read RX0 vwCl 2 cX0_read ct_X0_read
theorem cq_X0_read : q_X0_read.all (fun q => ck_X0_read q.2 q.1) = true := by decide +kernel
def o_X0_beginPart : List Cond := [.fieldLink RX0 25 RX0 "stage" "I", .fieldLink RX0 31 RX0 "value" "I", .methodLink RX0 45 yX0_keep, .instanceMethod yX0_keep, .selects RX0 yX0_keep yX0_keep, .initialized RX0, .code yX0_keep cX0_keep 3 none] ++ wsX00
theorem oi_X0_beginPart : ∀ w ∈ o_X0_beginPart, w ∈ wGT := wGT_of _ [126, 128, 187, 189, 1, 56, 190, 129, 131, 133, 135, 137, 139, 141] (by decide +kernel) (by decide +kernel)
def ct_X0_beginPart : List (Instr × Nat) := [(.invokevirtual 45, 3)]
abbrev rm_X0_beginPart : Room := { frames := 1, cells := 0, slots := 0, locals := 22 }
def b_X0_beginPart_0 : List wAn := [(.aload_n 0, 1, 0, 0, 0), (.bipush 6, 2, 0, 0, 0), (.iconst 0, 1, 0, 0, 0), (.invokevirtual 45, 3, 0, 0, 3), (.aload_n 0, 1, 0, 0, 0), (.iconst 0, 1, 0, 0, 0), (.putfield 25, 3, 0, 0, 4), (.aload_n 0, 1, 0, 0, 0), (.iconst (-1), 1, 0, 0, 0), (.putfield 31, 3, 0, 0, 6), (.return_, 1, 0, 0, 0)]
def q_X0_beginPart : List (Nat × List wAn) := [(0, b_X0_beginPart_0)]
abbrev ck_X0_beginPart : List wAn → Nat → Bool := w_ckB o_X0_beginPart RX0 vwCl 1 cX0_beginPart ct_X0_beginPart
theorem cq_X0_beginPart : q_X0_beginPart.all (fun q => ck_X0_beginPart q.2 q.1) = true := by decide +kernel
def o_X0_keep : List Cond := [.fieldLink RX0 22 RX0 "part" "I", .fieldLink RX0 15 RX0 "numbers" "[I"] ++ wsX00
theorem oi_X0_keep : ∀ w ∈ o_X0_keep, w ∈ wGT := wGT_of _ [125, 123, 129, 131, 133, 135, 137, 139, 141] (by decide +kernel) (by decide +kernel)
def ct_X0_keep : List (Instr × Nat) := []
abbrev rm_X0_keep : Room := { frames := 0, cells := 0, slots := 0, locals := 0 }
def b_X0_keep_0 : List wAn := [(.aload_n 0, 1, 0, 0, 0), (.getfield 22, 3, 0, 0, 3), (.bipush 6, 2, 0, 0, 0), (.if_icmp .ge 18, 3, 24, 0, 0), (.aload_n 0, 1, 0, 0, 0), (.getfield 15, 3, 0, 0, 1), (.aload_n 0, 1, 0, 0, 0), (.getfield 22, 3, 0, 0, 3), (.bipush 7, 2, 0, 0, 0), (.imul, 1, 0, 0, 0), (.iload_n 1, 1, 0, 0, 0), (.iadd, 1, 0, 0, 0), (.iload_n 2, 1, 0, 0, 0), (.iastore, 1, 2, 0, 0)]
def b_X0_keep_24 : List wAn := [(.return_, 1, 0, 0, 0)]
def q_X0_keep : List (Nat × List wAn) := [(0, b_X0_keep_0), (24, b_X0_keep_24)]
abbrev ck_X0_keep : List wAn → Nat → Bool := w_ckB o_X0_keep RX0 vwCl 3 cX0_keep ct_X0_keep
theorem cq_X0_keep : q_X0_keep.all (fun q => ck_X0_keep q.2 q.1) = true := by decide +kernel
def o_X0_accepts : List Cond := [.fieldLink RX0 25 RX0 "stage" "I", .fieldLink RX0 31 RX0 "value" "I", .methodLink RX0 49 yX0_acceptsIsland, .instanceMethod yX0_acceptsIsland, .selects RX0 yX0_acceptsIsland yX0_acceptsIsland, .initialized RX0, .code yX0_acceptsIsland cX0_acceptsIsland 2 (some .boolean), .static yX3_isWithin, .initialized RX3, .code yX3_isWithin cX3_isWithin 3 (some .boolean), .methodLink RX0 56 yX0_acceptsDigit, .instanceMethod yX0_acceptsDigit, .selects RX0 yX0_acceptsDigit yX0_acceptsDigit, .code yX0_acceptsDigit cX0_acceptsDigit 3 (some .boolean), .methodLink RX0 59 yX0_acceptsSign, .instanceMethod yX0_acceptsSign, .selects RX0 yX0_acceptsSign yX0_acceptsSign, .code yX0_acceptsSign cX0_acceptsSign 2 (some .boolean)] ++ wsX00
theorem oi_X0_accepts : ∀ w ∈ o_X0_accepts, w ∈ wGT := wGT_of _ [126, 128, 195, 197, 3, 56, 198, 200, 53, 201, 202, 204, 4, 205, 210, 212, 5, 213, 129, 131, 133, 135, 137, 139, 141] (by decide +kernel) (by decide +kernel)
def ct_X0_accepts : List (Instr × Nat) := [(.invokevirtual 49, 2), (.invokestatic 52, 3), (.invokevirtual 56, 2), (.invokevirtual 59, 2)]
abbrev rm_X0_accepts : Room := { frames := 3, cells := 0, slots := 0, locals := 63 }
def b_X0_accepts_0 : List wAn := [(.aload_n 0, 1, 0, 0, 0), (.getfield 25, 3, 0, 0, 4), (.iconst 1, 1, 0, 0, 0), (.if_icmp .gt 20, 3, 25, 0, 0), (.aload_n 0, 1, 0, 0, 0), (.getfield 31, 3, 0, 0, 6), (.iconst (-1), 1, 0, 0, 0), (.if_icmp .ne 12, 3, 25, 0, 0), (.aload_n 0, 1, 0, 0, 0), (.iload_n 1, 1, 0, 0, 0), (.bipush 97, 2, 0, 0, 0), (.isub, 1, 0, 0, 0), (.invokevirtual 49, 3, 0, 0, 2), (.ireturn, 1, 0, 0, 0)]
def b_X0_accepts_25 : List wAn := [(.aload_n 0, 1, 0, 0, 0), (.getfield 25, 3, 0, 0, 4), (.iconst 2, 1, 0, 0, 0), (.if_icmp .lt 31, 3, 61, 0, 0), (.aload_n 0, 1, 0, 0, 0), (.getfield 25, 3, 0, 0, 4), (.iconst 5, 1, 0, 0, 0), (.if_icmp .gt 23, 3, 61, 0, 0), (.iload_n 1, 1, 0, 0, 0), (.bipush 48, 2, 0, 0, 0), (.bipush 57, 2, 0, 0, 0), (.invokestatic 52, 3, 1, 1, 3), (.ifCond .eq 12, 3, 61, 0, 0), (.aload_n 0, 1, 0, 0, 0), (.iload_n 1, 1, 0, 0, 0), (.bipush 48, 2, 0, 0, 0), (.isub, 1, 0, 0, 0), (.invokevirtual 56, 3, 2, 0, 2), (.ireturn, 1, 0, 0, 0)]
def b_X0_accepts_61 : List wAn := [(.aload_n 0, 1, 0, 0, 0), (.iload_n 1, 1, 0, 0, 0), (.invokevirtual 59, 3, 3, 0, 2), (.ireturn, 1, 0, 0, 0)]
def q_X0_accepts : List (Nat × List wAn) := [(0, b_X0_accepts_0), (25, b_X0_accepts_25), (61, b_X0_accepts_61)]
abbrev ck_X0_accepts : List wAn → Nat → Bool := w_ckB o_X0_accepts RX0 vwCl 2 cX0_accepts ct_X0_accepts
theorem cq_X0_accepts : q_X0_accepts.all (fun q => ck_X0_accepts q.2 q.1) = true := by decide +kernel
def o_X0_acceptsIsland : List Cond := [.fieldLink RX0 25 RX0 "stage" "I", .fieldLink RX0 28 RX0 "from" "I", .fieldLink RX0 31 RX0 "value" "I", .static yX3_isWithin, .initialized RX3, .code yX3_isWithin cX3_isWithin 3 (some .boolean), .methodLink RX0 45 yX0_keep, .instanceMethod yX0_keep, .selects RX0 yX0_keep yX0_keep, .initialized RX0, .code yX0_keep cX0_keep 3 none] ++ wsX00
theorem oi_X0_acceptsIsland : ∀ w ∈ o_X0_acceptsIsland, w ∈ wGT := wGT_of _ [126, 127, 128, 200, 53, 201, 187, 189, 1, 56, 190, 129, 131, 133, 135, 137, 139, 141] (by decide +kernel) (by decide +kernel)
def ct_X0_acceptsIsland : List (Instr × Nat) := [(.invokestatic 52, 3), (.invokevirtual 45, 3)]
abbrev rm_X0_acceptsIsland : Room := { frames := 1, cells := 0, slots := 0, locals := 22 }
def b_X0_acceptsIsland_0 : List wAn := [(.iload_n 1, 1, 0, 0, 0), (.iconst 0, 1, 0, 0, 0), (.bipush 7, 2, 0, 0, 0), (.invokestatic 52, 3, 0, 1, 3), (.ifCond .ne 5, 3, 12, 0, 0), (.iconst 0, 1, 0, 0, 0), (.ireturn, 1, 0, 0, 0)]
def b_X0_acceptsIsland_12 : List wAn := [(.aload_n 0, 1, 0, 0, 0), (.getfield 25, 3, 0, 0, 4), (.ifCond .ne 21, 3, 37, 0, 0), (.aload_n 0, 1, 0, 0, 0), (.iconst 0, 1, 0, 0, 0), (.iload_n 1, 1, 0, 0, 0), (.invokevirtual 45, 3, 1, 0, 3), (.aload_n 0, 1, 0, 0, 0), (.iload_n 1, 1, 0, 0, 0), (.putfield 28, 3, 0, 0, 5), (.aload_n 0, 1, 0, 0, 0), (.iconst 1, 1, 0, 0, 0), (.putfield 25, 3, 0, 0, 4), (.iconst 1, 1, 0, 0, 0), (.ireturn, 1, 0, 0, 0)]
def b_X0_acceptsIsland_37 : List wAn := [(.iload_n 1, 1, 0, 0, 0), (.aload_n 0, 1, 0, 0, 0), (.getfield 28, 3, 0, 0, 5), (.if_icmp .ne 5, 3, 47, 0, 0), (.iconst 0, 1, 0, 0, 0), (.ireturn, 1, 0, 0, 0)]
def b_X0_acceptsIsland_47 : List wAn := [(.aload_n 0, 1, 0, 0, 0), (.iconst 1, 1, 0, 0, 0), (.iload_n 1, 1, 0, 0, 0), (.invokevirtual 45, 3, 1, 0, 3), (.aload_n 0, 1, 0, 0, 0), (.iload_n 1, 1, 0, 0, 0), (.putfield 31, 3, 0, 0, 6), (.iconst 1, 1, 0, 0, 0), (.ireturn, 1, 0, 0, 0)]
def q_X0_acceptsIsland : List (Nat × List wAn) := [(0, b_X0_acceptsIsland_0), (12, b_X0_acceptsIsland_12), (37, b_X0_acceptsIsland_37), (47, b_X0_acceptsIsland_47)]
abbrev ck_X0_acceptsIsland : List wAn → Nat → Bool := w_ckB o_X0_acceptsIsland RX0 vwCl 2 cX0_acceptsIsland ct_X0_acceptsIsland
theorem cq_X0_acceptsIsland : q_X0_acceptsIsland.all (fun q => ck_X0_acceptsIsland q.2 q.1) = true := by decide +kernel
def o_X0_acceptsDigit : List Cond := [.fieldLink RX0 31 RX0 "value" "I", .fieldLink RX0 25 RX0 "stage" "I", .static yX3_isWithin, .initialized RX3, .code yX3_isWithin cX3_isWithin 3 (some .boolean), .methodLink RX0 45 yX0_keep, .instanceMethod yX0_keep, .selects RX0 yX0_keep yX0_keep, .initialized RX0, .code yX0_keep cX0_keep 3 none] ++ wsX00
theorem oi_X0_acceptsDigit : ∀ w ∈ o_X0_acceptsDigit, w ∈ wGT := wGT_of _ [128, 126, 200, 53, 201, 187, 189, 1, 56, 190, 129, 131, 133, 135, 137, 139, 141] (by decide +kernel) (by decide +kernel)
def ct_X0_acceptsDigit : List (Instr × Nat) := [(.invokestatic 52, 3), (.invokevirtual 45, 3)]
abbrev rm_X0_acceptsDigit : Room := { frames := 1, cells := 0, slots := 0, locals := 22 }
def b_X0_acceptsDigit_0 : List wAn := [(.aload_n 0, 1, 0, 0, 0), (.getfield 31, 3, 0, 0, 6), (.iconst (-1), 1, 0, 0, 0), (.if_icmp .ne 7, 3, 12, 0, 0), (.iload_n 1, 1, 0, 0, 0), (.goto 12, 3, 21, 0, 0)]
def b_X0_acceptsDigit_12 : List wAn := [(.aload_n 0, 1, 0, 0, 0), (.getfield 31, 3, 0, 0, 6), (.bipush 10, 2, 0, 0, 0), (.imul, 1, 0, 0, 0), (.iload_n 1, 1, 0, 0, 0), (.iadd, 1, 0, 0, 0)]
def b_X0_acceptsDigit_21 : List wAn := [(.istore_n 2, 1, 0, 0, 0), (.aload_n 0, 1, 0, 0, 0), (.getfield 31, 3, 0, 0, 6), (.ifCond .eq 26, 3, 52, 0, 0), (.iload_n 2, 1, 0, 0, 0), (.getstatic 62, 3, 0, 1, 0), (.aload_n 0, 1, 0, 0, 0), (.getfield 25, 3, 0, 0, 4), (.iaload, 1, 0, 1, 0), (.getstatic 65, 3, 1, 1, 0), (.aload_n 0, 1, 0, 0, 0), (.getfield 25, 3, 0, 0, 4), (.iaload, 1, 1, 1, 0), (.invokestatic 52, 3, 0, 1, 3), (.ifCond .ne 5, 3, 54, 0, 0)]
def b_X0_acceptsDigit_52 : List wAn := [(.iconst 0, 1, 0, 0, 0), (.ireturn, 1, 0, 0, 0)]
def b_X0_acceptsDigit_54 : List wAn := [(.aload_n 0, 1, 0, 0, 0), (.iload_n 2, 1, 0, 0, 0), (.putfield 31, 3, 0, 0, 6), (.aload_n 0, 1, 0, 0, 0), (.aload_n 0, 1, 0, 0, 0), (.getfield 25, 3, 0, 0, 4), (.aload_n 0, 1, 0, 0, 0), (.getfield 31, 3, 0, 0, 6), (.invokevirtual 45, 3, 1, 0, 3), (.iconst 1, 1, 0, 0, 0), (.ireturn, 1, 0, 0, 0)]
def q_X0_acceptsDigit : List (Nat × List wAn) := [(0, b_X0_acceptsDigit_0), (12, b_X0_acceptsDigit_12), (21, b_X0_acceptsDigit_21), (52, b_X0_acceptsDigit_52), (54, b_X0_acceptsDigit_54)]
abbrev ck_X0_acceptsDigit : List wAn → Nat → Bool := w_ckB o_X0_acceptsDigit RX0 vwCl 3 cX0_acceptsDigit ct_X0_acceptsDigit
theorem cq_X0_acceptsDigit : q_X0_acceptsDigit.all (fun q => ck_X0_acceptsDigit q.2 q.1) = true := by decide +kernel
def o_X0_acceptsSign : List Cond := [.fieldLink RX0 31 RX0 "value" "I", .fieldLink RX0 25 RX0 "stage" "I", .fieldLink RX0 68 RX0 "SIGN_BEHIND" "[C", .fieldLink RX0 22 RX0 "part" "I", .methodLink RX0 45 yX0_keep, .instanceMethod yX0_keep, .selects RX0 yX0_keep yX0_keep, .initialized RX0, .code yX0_keep cX0_keep 3 none, .methodLink RX0 38 yX0_beginPart, .instanceMethod yX0_beginPart, .selects RX0 yX0_beginPart yX0_beginPart, .code yX0_beginPart cX0_beginPart 1 none] ++ wsX00
theorem oi_X0_acceptsSign : ∀ w ∈ o_X0_acceptsSign, w ∈ wGT := wGT_of _ [128, 126, 214, 125, 187, 189, 1, 56, 190, 183, 185, 0, 186, 129, 131, 133, 135, 137, 139, 141] (by decide +kernel) (by decide +kernel)
def ct_X0_acceptsSign : List (Instr × Nat) := [(.invokevirtual 45, 3), (.invokevirtual 38, 1)]
abbrev rm_X0_acceptsSign : Room := { frames := 2, cells := 0, slots := 0, locals := 42 }
def b_X0_acceptsSign_0 : List wAn := [(.aload_n 0, 1, 0, 0, 0), (.getfield 31, 3, 0, 0, 6), (.iconst (-1), 1, 0, 0, 0), (.if_icmp .ne 5, 3, 10, 0, 0), (.iconst 0, 1, 0, 0, 0), (.ireturn, 1, 0, 0, 0)]
def b_X0_acceptsSign_10 : List wAn := [(.aload_n 0, 1, 0, 0, 0), (.getfield 25, 3, 0, 0, 4), (.iconst 5, 1, 0, 0, 0), (.if_icmp .ne 40, 3, 55, 0, 0), (.iload_n 1, 1, 0, 0, 0), (.bipush 94, 2, 0, 0, 0), (.if_icmp .eq 9, 3, 30, 0, 0), (.iload_n 1, 1, 0, 0, 0), (.bipush 95, 2, 0, 0, 0), (.if_icmp .ne 28, 3, 55, 0, 0)]
def b_X0_acceptsSign_30 : List wAn := [(.aload_n 0, 1, 0, 0, 0), (.bipush 6, 2, 0, 0, 0), (.iload_n 1, 1, 0, 0, 0), (.bipush 94, 2, 0, 0, 0), (.if_icmp .ne 7, 3, 43, 0, 0), (.iconst 1, 1, 0, 0, 0), (.goto 4, 3, 44, 0, 0)]
def b_X0_acceptsSign_43 : List wAn := [(.iconst 2, 1, 0, 0, 0)]
def b_X0_acceptsSign_44 : List wAn := [(.invokevirtual 45, 3, 0, 0, 3), (.aload_n 0, 1, 0, 0, 0), (.bipush 6, 2, 0, 0, 0), (.putfield 25, 3, 0, 0, 4), (.iconst 1, 1, 0, 0, 0), (.ireturn, 1, 0, 0, 0)]
def b_X0_acceptsSign_55 : List wAn := [(.iload_n 1, 1, 0, 0, 0), (.getstatic 68, 3, 3, 0, 0), (.aload_n 0, 1, 0, 0, 0), (.getfield 25, 3, 0, 0, 4), (.caload, 1, 3, 1, 0), (.if_icmp .eq 5, 3, 69, 0, 0), (.iconst 0, 1, 0, 0, 0), (.ireturn, 1, 0, 0, 0)]
def b_X0_acceptsSign_69 : List wAn := [(.iload_n 1, 1, 0, 0, 0), (.bipush 59, 2, 0, 0, 0), (.if_icmp .ne 20, 3, 92, 0, 0), (.aload_n 0, 1, 0, 0, 0), (.dup, 1, 0, 0, 0), (.getfield 22, 3, 0, 0, 3), (.iconst 1, 1, 0, 0, 0), (.iadd, 1, 0, 0, 0), (.putfield 22, 3, 0, 0, 3), (.aload_n 0, 1, 0, 0, 0), (.invokevirtual 38, 3, 1, 0, 1), (.goto 18, 3, 107, 0, 0)]
def b_X0_acceptsSign_92 : List wAn := [(.aload_n 0, 1, 0, 0, 0), (.dup, 1, 0, 0, 0), (.getfield 25, 3, 0, 0, 4), (.iconst 1, 1, 0, 0, 0), (.iadd, 1, 0, 0, 0), (.putfield 25, 3, 0, 0, 4), (.aload_n 0, 1, 0, 0, 0), (.iconst (-1), 1, 0, 0, 0), (.putfield 31, 3, 0, 0, 6)]
def b_X0_acceptsSign_107 : List wAn := [(.iconst 1, 1, 0, 0, 0), (.ireturn, 1, 0, 0, 0)]
def q_X0_acceptsSign : List (Nat × List wAn) := [(0, b_X0_acceptsSign_0), (10, b_X0_acceptsSign_10), (30, b_X0_acceptsSign_30), (43, b_X0_acceptsSign_43), (44, b_X0_acceptsSign_44), (55, b_X0_acceptsSign_55), (69, b_X0_acceptsSign_69), (92, b_X0_acceptsSign_92), (107, b_X0_acceptsSign_107)]
abbrev ck_X0_acceptsSign : List wAn → Nat → Bool := w_ckB o_X0_acceptsSign RX0 vwCl 2 cX0_acceptsSign ct_X0_acceptsSign
theorem cq_X0_acceptsSign : q_X0_acceptsSign.all (fun q => ck_X0_acceptsSign q.2 q.1) = true := by decide +kernel
def o_X1_copyTo : List Cond := [.fieldLink RX1 9 RX1 "numbers" "[I"] ++ wsX10
theorem oi_X1_copyTo : ∀ w ∈ o_X1_copyTo, w ∈ wGT := wGT_of _ [83, 84] (by decide +kernel) (by decide +kernel)
def ct_X1_copyTo : List (Instr × Nat) := [(.invokestatic 15, 5)]
abbrev rm_X1_copyTo : Room := { frames := 1, cells := 0, slots := 0, locals := 60 }
def b_X1_copyTo_0 : List wAn := [(.aload_n 0, 1, 0, 0, 0), (.getfield 9, 3, 0, 1, 0), (.iconst 0, 1, 0, 0, 0), (.aload_n 1, 1, 0, 0, 0), (.iload_n 2, 1, 0, 0, 0), (.sipush 149, 3, 0, 0, 0), (.invokestatic 15, 3, 0, 0, 5), (.return_, 1, 0, 0, 0)]
def q_X1_copyTo : List (Nat × List wAn) := [(0, b_X1_copyTo_0)]
abbrev ck_X1_copyTo : List wAn → Nat → Bool := w_ckB o_X1_copyTo RX1 vwCl 3 cX1_copyTo ct_X1_copyTo
theorem cq_X1_copyTo : q_X1_copyTo.all (fun q => ck_X1_copyTo q.2 q.1) = true := by decide +kernel
def o_X1_restore : List Cond := [.fieldLink RX1 9 RX1 "numbers" "[I"] ++ wsX10
theorem oi_X1_restore : ∀ w ∈ o_X1_restore, w ∈ wGT := wGT_of _ [83, 84] (by decide +kernel) (by decide +kernel)
def ct_X1_restore : List (Instr × Nat) := [(.invokestatic 15, 5)]
abbrev rm_X1_restore : Room := { frames := 1, cells := 0, slots := 0, locals := 60 }
def b_X1_restore_0 : List wAn := [(.aload_n 1, 1, 0, 0, 0), (.iload_n 2, 1, 0, 0, 0), (.aload_n 0, 1, 0, 0, 0), (.getfield 9, 3, 0, 1, 0), (.iconst 0, 1, 0, 0, 0), (.sipush 149, 3, 0, 0, 0), (.invokestatic 15, 3, 0, 0, 5), (.return_, 1, 0, 0, 0)]
def q_X1_restore : List (Nat × List wAn) := [(0, b_X1_restore_0)]
abbrev ck_X1_restore : List wAn → Nat → Bool := w_ckB o_X1_restore RX1 vwCl 3 cX1_restore ct_X1_restore
theorem cq_X1_restore : q_X1_restore.all (fun q => ck_X1_restore q.2 q.1) = true := by decide +kernel
def o_X1_ferryCount : List Cond := [.fieldLink RX1 9 RX1 "numbers" "[I"] ++ wsX10
theorem oi_X1_ferryCount : ∀ w ∈ o_X1_ferryCount, w ∈ wGT := wGT_of _ [83, 84] (by decide +kernel) (by decide +kernel)
def ct_X1_ferryCount : List (Instr × Nat) := []
abbrev rm_X1_ferryCount : Room := { frames := 0, cells := 0, slots := 0, locals := 0 }
def b_X1_ferryCount_0 : List wAn := [(.aload_n 0, 1, 0, 0, 0), (.getfield 9, 3, 0, 1, 0), (.iconst 0, 1, 0, 0, 0), (.iaload, 1, 1, 0, 0), (.ireturn, 1, 0, 0, 0)]
def q_X1_ferryCount : List (Nat × List wAn) := [(0, b_X1_ferryCount_0)]
abbrev ck_X1_ferryCount : List wAn → Nat → Bool := w_ckB o_X1_ferryCount RX1 vwCl 1 cX1_ferryCount ct_X1_ferryCount
theorem cq_X1_ferryCount : q_X1_ferryCount.all (fun q => ck_X1_ferryCount q.2 q.1) = true := by decide +kernel
def o_X1_settingValue : List Cond := [.fieldLink RX1 9 RX1 "numbers" "[I"] ++ wsX10
theorem oi_X1_settingValue : ∀ w ∈ o_X1_settingValue, w ∈ wGT := wGT_of _ [83, 84] (by decide +kernel) (by decide +kernel)
def ct_X1_settingValue : List (Instr × Nat) := []
abbrev rm_X1_settingValue : Room := { frames := 0, cells := 0, slots := 0, locals := 0 }
def b_X1_settingValue_0 : List wAn := [(.aload_n 0, 1, 0, 0, 0), (.getfield 9, 3, 0, 1, 0), (.iconst 1, 1, 0, 0, 0), (.iload_n 1, 1, 0, 0, 0), (.iadd, 1, 0, 0, 0), (.iaload, 1, 1, 0, 0), (.ireturn, 1, 0, 0, 0)]
def q_X1_settingValue : List (Nat × List wAn) := [(0, b_X1_settingValue_0)]
abbrev ck_X1_settingValue : List wAn → Nat → Bool := w_ckB o_X1_settingValue RX1 vwCl 2 cX1_settingValue ct_X1_settingValue
theorem cq_X1_settingValue : q_X1_settingValue.all (fun q => ck_X1_settingValue q.2 q.1) = true := by decide +kernel
def o_X1_changeSetting : List Cond := [.fieldLink RX1 9 RX1 "numbers" "[I"] ++ wsX10
theorem oi_X1_changeSetting : ∀ w ∈ o_X1_changeSetting, w ∈ wGT := wGT_of _ [83, 84] (by decide +kernel) (by decide +kernel)
def ct_X1_changeSetting : List (Instr × Nat) := []
abbrev rm_X1_changeSetting : Room := { frames := 0, cells := 0, slots := 0, locals := 0 }
def b_X1_changeSetting_0 : List wAn := [(.aload_n 0, 1, 0, 0, 0), (.getfield 9, 3, 0, 1, 0), (.iconst 1, 1, 0, 0, 0), (.iload_n 1, 1, 0, 0, 0), (.iadd, 1, 0, 0, 0), (.iload_n 2, 1, 0, 0, 0), (.iastore, 1, 1, 0, 0), (.return_, 1, 0, 0, 0)]
def q_X1_changeSetting : List (Nat × List wAn) := [(0, b_X1_changeSetting_0)]
abbrev ck_X1_changeSetting : List wAn → Nat → Bool := w_ckB o_X1_changeSetting RX1 vwCl 3 cX1_changeSetting ct_X1_changeSetting
theorem cq_X1_changeSetting : q_X1_changeSetting.all (fun q => ck_X1_changeSetting q.2 q.1) = true := by decide +kernel
def o_X1_ferryNumber : List Cond := [.fieldLink RX1 9 RX1 "numbers" "[I"] ++ wsX10
theorem oi_X1_ferryNumber : ∀ w ∈ o_X1_ferryNumber, w ∈ wGT := wGT_of _ [83, 84] (by decide +kernel) (by decide +kernel)
def ct_X1_ferryNumber : List (Instr × Nat) := []
abbrev rm_X1_ferryNumber : Room := { frames := 0, cells := 0, slots := 0, locals := 0 }
def b_X1_ferryNumber_0 : List wAn := [(.aload_n 0, 1, 0, 0, 0), (.getfield 9, 3, 0, 1, 0), (.bipush 23, 2, 0, 0, 0), (.iload_n 1, 1, 0, 0, 0), (.bipush 9, 2, 0, 0, 0), (.imul, 1, 0, 0, 0), (.iadd, 1, 0, 0, 0), (.iload_n 2, 1, 0, 0, 0), (.iadd, 1, 0, 0, 0), (.iaload, 1, 1, 0, 0), (.ireturn, 1, 0, 0, 0)]
def q_X1_ferryNumber : List (Nat × List wAn) := [(0, b_X1_ferryNumber_0)]
abbrev ck_X1_ferryNumber : List wAn → Nat → Bool := w_ckB o_X1_ferryNumber RX1 vwCl 3 cX1_ferryNumber ct_X1_ferryNumber
theorem cq_X1_ferryNumber : q_X1_ferryNumber.all (fun q => ck_X1_ferryNumber q.2 q.1) = true := by decide +kernel
def o_X1_changeFerry : List Cond := [.fieldLink RX1 9 RX1 "numbers" "[I"] ++ wsX10
theorem oi_X1_changeFerry : ∀ w ∈ o_X1_changeFerry, w ∈ wGT := wGT_of _ [83, 84] (by decide +kernel) (by decide +kernel)
def ct_X1_changeFerry : List (Instr × Nat) := []
abbrev rm_X1_changeFerry : Room := { frames := 0, cells := 0, slots := 0, locals := 0 }
def b_X1_changeFerry_0 : List wAn := [(.aload_n 0, 1, 0, 0, 0), (.getfield 9, 3, 0, 1, 0), (.bipush 23, 2, 0, 0, 0), (.iload_n 1, 1, 0, 0, 0), (.bipush 9, 2, 0, 0, 0), (.imul, 1, 0, 0, 0), (.iadd, 1, 0, 0, 0), (.iload_n 2, 1, 0, 0, 0), (.iadd, 1, 0, 0, 0), (.iload_n 3, 1, 0, 0, 0), (.iastore, 1, 1, 0, 0), (.return_, 1, 0, 0, 0)]
def q_X1_changeFerry : List (Nat × List wAn) := [(0, b_X1_changeFerry_0)]
abbrev ck_X1_changeFerry : List wAn → Nat → Bool := w_ckB o_X1_changeFerry RX1 vwCl 4 cX1_changeFerry ct_X1_changeFerry
theorem cq_X1_changeFerry : q_X1_changeFerry.all (fun q => ck_X1_changeFerry q.2 q.1) = true := by decide +kernel
def o_X1_travellerNumber : List Cond := [.fieldLink RX1 9 RX1 "numbers" "[I"] ++ wsX10
theorem oi_X1_travellerNumber : ∀ w ∈ o_X1_travellerNumber, w ∈ wGT := wGT_of _ [83, 84] (by decide +kernel) (by decide +kernel)
def ct_X1_travellerNumber : List (Instr × Nat) := []
abbrev rm_X1_travellerNumber : Room := { frames := 0, cells := 0, slots := 0, locals := 0 }
def b_X1_travellerNumber_0 : List wAn := [(.aload_n 0, 1, 0, 0, 0), (.getfield 9, 3, 0, 1, 0), (.iconst 3, 1, 0, 0, 0), (.iload_n 1, 1, 0, 0, 0), (.iconst 5, 1, 0, 0, 0), (.imul, 1, 0, 0, 0), (.iadd, 1, 0, 0, 0), (.iload_n 2, 1, 0, 0, 0), (.iadd, 1, 0, 0, 0), (.iaload, 1, 1, 0, 0), (.ireturn, 1, 0, 0, 0)]
def q_X1_travellerNumber : List (Nat × List wAn) := [(0, b_X1_travellerNumber_0)]
abbrev ck_X1_travellerNumber : List wAn → Nat → Bool := w_ckB o_X1_travellerNumber RX1 vwCl 3 cX1_travellerNumber ct_X1_travellerNumber
theorem cq_X1_travellerNumber : q_X1_travellerNumber.all (fun q => ck_X1_travellerNumber q.2 q.1) = true := by decide +kernel
def o_X1_changeTraveller : List Cond := [.fieldLink RX1 9 RX1 "numbers" "[I"] ++ wsX10
theorem oi_X1_changeTraveller : ∀ w ∈ o_X1_changeTraveller, w ∈ wGT := wGT_of _ [83, 84] (by decide +kernel) (by decide +kernel)
def ct_X1_changeTraveller : List (Instr × Nat) := []
abbrev rm_X1_changeTraveller : Room := { frames := 0, cells := 0, slots := 0, locals := 0 }
def b_X1_changeTraveller_0 : List wAn := [(.aload_n 0, 1, 0, 0, 0), (.getfield 9, 3, 0, 1, 0), (.iconst 3, 1, 0, 0, 0), (.iload_n 1, 1, 0, 0, 0), (.iconst 5, 1, 0, 0, 0), (.imul, 1, 0, 0, 0), (.iadd, 1, 0, 0, 0), (.iload_n 2, 1, 0, 0, 0), (.iadd, 1, 0, 0, 0), (.iload_n 3, 1, 0, 0, 0), (.iastore, 1, 1, 0, 0), (.return_, 1, 0, 0, 0)]
def q_X1_changeTraveller : List (Nat × List wAn) := [(0, b_X1_changeTraveller_0)]
abbrev ck_X1_changeTraveller : List wAn → Nat → Bool := w_ckB o_X1_changeTraveller RX1 vwCl 4 cX1_changeTraveller ct_X1_changeTraveller
theorem cq_X1_changeTraveller : q_X1_changeTraveller.all (fun q => ck_X1_changeTraveller q.2 q.1) = true := by decide +kernel
def o_X1_sumOfTravellers : List Cond := [.methodLink RX1 21 yX1_travellerNumber, .instanceMethod yX1_travellerNumber, .selects RX1 yX1_travellerNumber yX1_travellerNumber, .initialized RX1, .code yX1_travellerNumber cX1_travellerNumber 3 (some .int)]
theorem oi_X1_sumOfTravellers : ∀ w ∈ o_X1_sumOfTravellers, w ∈ wGT := wGT_of _ [278, 279, 280, 54, 281] (by decide +kernel) (by decide +kernel)
def ct_X1_sumOfTravellers : List (Instr × Nat) := [(.invokevirtual 21, 3)]
abbrev rm_X1_sumOfTravellers : Room := { frames := 1, cells := 0, slots := 0, locals := 22 }
def b_X1_sumOfTravellers_0 : List wAn := [(.iconst 0, 1, 0, 0, 0), (.istore_n 2, 1, 0, 0, 0), (.iconst 0, 1, 0, 0, 0), (.istore_n 3, 1, 0, 0, 0)]
def b_X1_sumOfTravellers_4 : List wAn := [(.iload_n 3, 1, 0, 0, 0), (.iconst 4, 1, 0, 0, 0), (.if_icmp .ge 18, 3, 24, 0, 0), (.iload_n 2, 1, 0, 0, 0), (.aload_n 0, 1, 0, 0, 0), (.iload_n 3, 1, 0, 0, 0), (.iload_n 1, 1, 0, 0, 0), (.invokevirtual 21, 3, 0, 0, 3), (.iadd, 1, 0, 0, 0), (.istore_n 2, 1, 0, 0, 0), (.iinc 3 1, 3, 0, 0, 0), (.goto (-17), 3, 4, 0, 0)]
def b_X1_sumOfTravellers_24 : List wAn := [(.iload_n 2, 1, 0, 0, 0), (.ireturn, 1, 0, 0, 0)]
def q_X1_sumOfTravellers : List (Nat × List wAn) := [(0, b_X1_sumOfTravellers_0), (4, b_X1_sumOfTravellers_4), (24, b_X1_sumOfTravellers_24)]
abbrev ck_X1_sumOfTravellers : List wAn → Nat → Bool := w_ckB o_X1_sumOfTravellers RX1 vwCl 4 cX1_sumOfTravellers ct_X1_sumOfTravellers
theorem cq_X1_sumOfTravellers : q_X1_sumOfTravellers.all (fun q => ck_X1_sumOfTravellers q.2 q.1) = true := by decide +kernel
def o_X1_tell : List Cond := [.fieldLink RX1 9 RX1 "numbers" "[I", .methodLink RX1 25 yX1_changeFerry, .instanceMethod yX1_changeFerry, .selects RX1 yX1_changeFerry yX1_changeFerry, .initialized RX1, .code yX1_changeFerry cX1_changeFerry 4 none] ++ wsX10
theorem oi_X1_tell : ∀ w ∈ o_X1_tell, w ∈ wGT := wGT_of _ [83, 536, 537, 538, 54, 539, 84] (by decide +kernel) (by decide +kernel)
def ct_X1_tell : List (Instr × Nat) := [(.invokevirtual 25, 4)]
abbrev rm_X1_tell : Room := { frames := 1, cells := 0, slots := 0, locals := 23 }
def b_X1_tell_0 : List wAn := [(.aload_n 0, 1, 0, 0, 0), (.getfield 9, 3, 0, 1, 0), (.iconst 0, 1, 0, 0, 0), (.iaload, 1, 1, 0, 0), (.istore 8, 2, 0, 0, 0), (.iload 8, 2, 0, 0, 0), (.bipush 14, 2, 0, 0, 0), (.if_icmp .lt 4, 3, 16, 0, 0), (.return_, 1, 0, 0, 0)]
def b_X1_tell_16 : List wAn := [(.aload_n 0, 1, 0, 0, 0), (.iload 8, 2, 0, 0, 0), (.iconst 0, 1, 0, 0, 0), (.iload_n 1, 1, 0, 0, 0), (.invokevirtual 25, 3, 0, 0, 4), (.aload_n 0, 1, 0, 0, 0), (.iload 8, 2, 0, 0, 0), (.iconst 1, 1, 0, 0, 0), (.iload_n 2, 1, 0, 0, 0), (.invokevirtual 25, 3, 0, 0, 4), (.aload_n 0, 1, 0, 0, 0), (.iload 8, 2, 0, 0, 0), (.iconst 2, 1, 0, 0, 0), (.iload_n 3, 1, 0, 0, 0), (.invokevirtual 25, 3, 0, 0, 4), (.aload_n 0, 1, 0, 0, 0), (.iload 8, 2, 0, 0, 0), (.iconst 3, 1, 0, 0, 0), (.iload 4, 2, 0, 0, 0), (.invokevirtual 25, 3, 0, 0, 4), (.aload_n 0, 1, 0, 0, 0), (.iload 8, 2, 0, 0, 0), (.iconst 4, 1, 0, 0, 0), (.iload 5, 2, 0, 0, 0), (.invokevirtual 25, 3, 0, 0, 4), (.aload_n 0, 1, 0, 0, 0), (.iload 8, 2, 0, 0, 0), (.iconst 5, 1, 0, 0, 0), (.iload 6, 2, 0, 0, 0), (.invokevirtual 25, 3, 0, 0, 4), (.aload_n 0, 1, 0, 0, 0), (.iload 8, 2, 0, 0, 0), (.bipush 6, 2, 0, 0, 0), (.iload 7, 2, 0, 0, 0), (.invokevirtual 25, 3, 0, 0, 4), (.aload_n 0, 1, 0, 0, 0), (.iload 8, 2, 0, 0, 0), (.bipush 7, 2, 0, 0, 0), (.iconst 0, 1, 0, 0, 0), (.invokevirtual 25, 3, 0, 0, 4), (.aload_n 0, 1, 0, 0, 0), (.iload 8, 2, 0, 0, 0), (.bipush 8, 2, 0, 0, 0), (.iconst 0, 1, 0, 0, 0), (.invokevirtual 25, 3, 0, 0, 4), (.aload_n 0, 1, 0, 0, 0), (.getfield 9, 3, 0, 1, 0), (.iconst 0, 1, 0, 0, 0), (.iload 8, 2, 0, 0, 0), (.iconst 1, 1, 0, 0, 0), (.iadd, 1, 0, 0, 0), (.iastore, 1, 1, 0, 0), (.return_, 1, 0, 0, 0)]
def q_X1_tell : List (Nat × List wAn) := [(0, b_X1_tell_0), (16, b_X1_tell_16)]
abbrev ck_X1_tell : List wAn → Nat → Bool := w_ckB o_X1_tell RX1 vwCl 9 cX1_tell ct_X1_tell
theorem cq_X1_tell : q_X1_tell.all (fun q => ck_X1_tell q.2 q.1) = true := by decide +kernel
def o_X1_forget : List Cond := [.fieldLink RX1 9 RX1 "numbers" "[I"] ++ wsX10
theorem oi_X1_forget : ∀ w ∈ o_X1_forget, w ∈ wGT := wGT_of _ [83, 84] (by decide +kernel) (by decide +kernel)
def ct_X1_forget : List (Instr × Nat) := [(.invokestatic 15, 5)]
abbrev rm_X1_forget : Room := { frames := 1, cells := 0, slots := 0, locals := 60 }
def b_X1_forget_0 : List wAn := [(.aload_n 0, 1, 0, 0, 0), (.getfield 9, 3, 0, 1, 0), (.iconst 0, 1, 0, 0, 0), (.iaload, 1, 1, 0, 0), (.iconst 1, 1, 0, 0, 0), (.isub, 1, 0, 0, 0), (.istore_n 2, 1, 0, 0, 0), (.bipush 23, 2, 0, 0, 0), (.iload_n 1, 1, 0, 0, 0), (.bipush 9, 2, 0, 0, 0), (.imul, 1, 0, 0, 0), (.iadd, 1, 0, 0, 0), (.istore_n 3, 1, 0, 0, 0), (.iload_n 1, 1, 0, 0, 0), (.iload_n 2, 1, 0, 0, 0), (.if_icmp .ge 25, 3, 44, 0, 0), (.aload_n 0, 1, 0, 0, 0), (.getfield 9, 3, 0, 1, 0), (.iload_n 3, 1, 0, 0, 0), (.bipush 9, 2, 0, 0, 0), (.iadd, 1, 0, 0, 0), (.aload_n 0, 1, 0, 0, 0), (.getfield 9, 3, 0, 1, 0), (.iload_n 3, 1, 0, 0, 0), (.iload_n 2, 1, 0, 0, 0), (.iload_n 1, 1, 0, 0, 0), (.isub, 1, 0, 0, 0), (.bipush 9, 2, 0, 0, 0), (.imul, 1, 0, 0, 0), (.invokestatic 15, 3, 0, 0, 5)]
def b_X1_forget_44 : List wAn := [(.aload_n 0, 1, 0, 0, 0), (.getfield 9, 3, 0, 1, 0), (.iconst 0, 1, 0, 0, 0), (.iload_n 2, 1, 0, 0, 0), (.iastore, 1, 1, 0, 0), (.return_, 1, 0, 0, 0)]
def q_X1_forget : List (Nat × List wAn) := [(0, b_X1_forget_0), (44, b_X1_forget_44)]
abbrev ck_X1_forget : List wAn → Nat → Bool := w_ckB o_X1_forget RX1 vwCl 4 cX1_forget ct_X1_forget
theorem cq_X1_forget : q_X1_forget.all (fun q => ck_X1_forget q.2 q.1) = true := by decide +kernel
def o_X1_carry : List Cond := [.methodLink RX1 21 yX1_travellerNumber, .instanceMethod yX1_travellerNumber, .selects RX1 yX1_travellerNumber yX1_travellerNumber, .initialized RX1, .code yX1_travellerNumber cX1_travellerNumber 3 (some .int), .methodLink RX1 29 yX1_nextLeaving, .instanceMethod yX1_nextLeaving, .selects RX1 yX1_nextLeaving yX1_nextLeaving, .code yX1_nextLeaving cX1_nextLeaving 4 (some .int), .methodLink RX1 32 yX1_price, .instanceMethod yX1_price, .selects RX1 yX1_price yX1_price, .code yX1_price cX1_price 4 (some .int), .methodLink RX1 35 yX1_ferryNumber, .instanceMethod yX1_ferryNumber, .selects RX1 yX1_ferryNumber yX1_ferryNumber, .code yX1_ferryNumber cX1_ferryNumber 3 (some .int), .methodLink RX1 38 yX1_changeTraveller, .instanceMethod yX1_changeTraveller, .selects RX1 yX1_changeTraveller yX1_changeTraveller, .code yX1_changeTraveller cX1_changeTraveller 4 none, .methodLink RX1 25 yX1_changeFerry, .instanceMethod yX1_changeFerry, .selects RX1 yX1_changeFerry yX1_changeFerry, .code yX1_changeFerry cX1_changeFerry 4 none]
theorem oi_X1_carry : ∀ w ∈ o_X1_carry, w ∈ wGT := wGT_of _ [278, 279, 280, 54, 281, 340, 244, 245, 246, 623, 297, 298, 299, 624, 240, 241, 242, 625, 598, 599, 600, 536, 537, 538, 539] (by decide +kernel) (by decide +kernel)
def ct_X1_carry : List (Instr × Nat) := [(.invokevirtual 21, 3), (.invokevirtual 29, 3), (.invokevirtual 32, 3), (.invokevirtual 35, 3), (.invokevirtual 38, 4), (.invokevirtual 25, 4)]
abbrev rm_X1_carry : Room := { frames := 2, cells := 0, slots := 0, locals := 48 }
def b_X1_carry_0 : List wAn := [(.aload_n 0, 1, 0, 0, 0), (.iload_n 2, 1, 0, 0, 0), (.aload_n 0, 1, 0, 0, 0), (.iload_n 1, 1, 0, 0, 0), (.iconst 1, 1, 0, 0, 0), (.invokevirtual 21, 3, 0, 0, 3), (.invokevirtual 29, 3, 1, 0, 3), (.istore_n 3, 1, 0, 0, 0), (.aload_n 0, 1, 0, 0, 0), (.iload_n 2, 1, 0, 0, 0), (.iload_n 3, 1, 0, 0, 0), (.invokevirtual 32, 3, 2, 0, 3), (.istore 4, 2, 0, 0, 0), (.aload_n 0, 1, 0, 0, 0), (.iload_n 1, 1, 0, 0, 0), (.iconst 0, 1, 0, 0, 0), (.aload_n 0, 1, 0, 0, 0), (.iload_n 2, 1, 0, 0, 0), (.iconst 1, 1, 0, 0, 0), (.invokevirtual 35, 3, 3, 0, 3), (.invokevirtual 38, 3, 4, 0, 4), (.aload_n 0, 1, 0, 0, 0), (.iload_n 1, 1, 0, 0, 0), (.iconst 1, 1, 0, 0, 0), (.iload_n 3, 1, 0, 0, 0), (.aload_n 0, 1, 0, 0, 0), (.iload_n 2, 1, 0, 0, 0), (.iconst 4, 1, 0, 0, 0), (.invokevirtual 35, 3, 3, 0, 3), (.iadd, 1, 0, 0, 0), (.invokevirtual 38, 3, 4, 0, 4), (.aload_n 0, 1, 0, 0, 0), (.iload_n 1, 1, 0, 0, 0), (.iconst 2, 1, 0, 0, 0), (.aload_n 0, 1, 0, 0, 0), (.iload_n 1, 1, 0, 0, 0), (.iconst 2, 1, 0, 0, 0), (.invokevirtual 21, 3, 0, 0, 3), (.iload 4, 2, 0, 0, 0), (.isub, 1, 0, 0, 0), (.invokevirtual 38, 3, 4, 0, 4), (.aload_n 0, 1, 0, 0, 0), (.iload_n 1, 1, 0, 0, 0), (.iconst 3, 1, 0, 0, 0), (.aload_n 0, 1, 0, 0, 0), (.iload_n 1, 1, 0, 0, 0), (.iconst 3, 1, 0, 0, 0), (.invokevirtual 21, 3, 0, 0, 3), (.iconst 1, 1, 0, 0, 0), (.iadd, 1, 0, 0, 0), (.invokevirtual 38, 3, 4, 0, 4), (.aload_n 0, 1, 0, 0, 0), (.iload_n 1, 1, 0, 0, 0), (.iconst 4, 1, 0, 0, 0), (.aload_n 0, 1, 0, 0, 0), (.iload_n 1, 1, 0, 0, 0), (.iconst 4, 1, 0, 0, 0), (.invokevirtual 21, 3, 0, 0, 3), (.iload 4, 2, 0, 0, 0), (.iadd, 1, 0, 0, 0), (.invokevirtual 38, 3, 4, 0, 4), (.aload_n 0, 1, 0, 0, 0), (.iload_n 2, 1, 0, 0, 0), (.bipush 8, 2, 0, 0, 0), (.aload_n 0, 1, 0, 0, 0), (.iload_n 2, 1, 0, 0, 0), (.bipush 8, 2, 0, 0, 0), (.invokevirtual 35, 3, 3, 0, 3), (.iconst 1, 1, 0, 0, 0), (.iadd, 1, 0, 0, 0), (.invokevirtual 25, 3, 5, 0, 4), (.return_, 1, 0, 0, 0)]
def q_X1_carry : List (Nat × List wAn) := [(0, b_X1_carry_0)]
abbrev ck_X1_carry : List wAn → Nat → Bool := w_ckB o_X1_carry RX1 vwCl 5 cX1_carry ct_X1_carry
theorem cq_X1_carry : q_X1_carry.all (fun q => ck_X1_carry q.2 q.1) = true := by decide +kernel
def o_X1_price : List Cond := [.fieldLink RX1 9 RX1 "numbers" "[I", .methodLink RX1 41 yX1_minuteOfHour, .instanceMethod yX1_minuteOfHour, .selects RX1 yX1_minuteOfHour yX1_minuteOfHour, .initialized RX1, .code yX1_minuteOfHour cX1_minuteOfHour 3 (some .int)] ++ wsX10
theorem oi_X1_price : ∀ w ∈ o_X1_price, w ∈ wGT := wGT_of _ [83, 300, 302, 13, 54, 303, 84] (by decide +kernel) (by decide +kernel)
def ct_X1_price : List (Instr × Nat) := [(.invokevirtual 41, 3)]
abbrev rm_X1_price : Room := { frames := 1, cells := 0, slots := 0, locals := 22 }
def b_X1_price_0 : List wAn := [(.aload_n 0, 1, 0, 0, 0), (.getfield 9, 3, 0, 1, 0), (.bipush 23, 2, 0, 0, 0), (.iload_n 1, 1, 0, 0, 0), (.bipush 9, 2, 0, 0, 0), (.imul, 1, 0, 0, 0), (.iadd, 1, 0, 0, 0), (.iconst 5, 1, 0, 0, 0), (.iadd, 1, 0, 0, 0), (.iaload, 1, 1, 0, 0), (.istore_n 3, 1, 0, 0, 0), (.aload_n 0, 1, 0, 0, 0), (.iload_n 1, 1, 0, 0, 0), (.iload_n 2, 1, 0, 0, 0), (.invokevirtual 41, 3, 0, 0, 3), (.aload_n 0, 1, 0, 0, 0), (.getfield 9, 3, 0, 1, 0), (.iconst 2, 1, 0, 0, 0), (.iaload, 1, 1, 0, 0), (.if_icmp .ge 9, 3, 36, 0, 0), (.iconst 2, 1, 0, 0, 0), (.iload_n 3, 1, 0, 0, 0), (.imul, 1, 0, 0, 0), (.goto 4, 3, 37, 0, 0)]
def b_X1_price_36 : List wAn := [(.iload_n 3, 1, 0, 0, 0)]
def b_X1_price_37 : List wAn := [(.ireturn, 1, 0, 0, 0)]
def q_X1_price : List (Nat × List wAn) := [(0, b_X1_price_0), (36, b_X1_price_36), (37, b_X1_price_37)]
abbrev ck_X1_price : List wAn → Nat → Bool := w_ckB o_X1_price RX1 vwCl 4 cX1_price ct_X1_price
theorem cq_X1_price : q_X1_price.all (fun q => ck_X1_price q.2 q.1) = true := by decide +kernel
def o_X1_minuteOfHour : List Cond := [.fieldLink RX1 9 RX1 "numbers" "[I"] ++ wsX10
theorem oi_X1_minuteOfHour : ∀ w ∈ o_X1_minuteOfHour, w ∈ wGT := wGT_of _ [83, 84] (by decide +kernel) (by decide +kernel)
def ct_X1_minuteOfHour : List (Instr × Nat) := []
abbrev rm_X1_minuteOfHour : Room := { frames := 0, cells := 0, slots := 0, locals := 0 }
def b_X1_minuteOfHour_0 : List wAn := [(.iload_n 2, 1, 0, 0, 0), (.aload_n 0, 1, 0, 0, 0), (.getfield 9, 3, 0, 1, 0), (.bipush 23, 2, 0, 0, 0), (.iload_n 1, 1, 0, 0, 0), (.bipush 9, 2, 0, 0, 0), (.imul, 1, 0, 0, 0), (.iadd, 1, 0, 0, 0), (.bipush 7, 2, 0, 0, 0), (.iadd, 1, 0, 0, 0), (.iaload, 1, 1, 0, 0), (.iadd, 1, 0, 0, 0), (.bipush 60, 2, 0, 0, 0), (.irem, 1, 0, 0, 0), (.ireturn, 1, 0, 0, 0)]
def q_X1_minuteOfHour : List (Nat × List wAn) := [(0, b_X1_minuteOfHour_0)]
abbrev ck_X1_minuteOfHour : List wAn → Nat → Bool := w_ckB o_X1_minuteOfHour RX1 vwCl 3 cX1_minuteOfHour ct_X1_minuteOfHour
theorem cq_X1_minuteOfHour : q_X1_minuteOfHour.all (fun q => ck_X1_minuteOfHour q.2 q.1) = true := by decide +kernel
def o_X1_nextLeaving : List Cond := [.methodLink RX1 44 yX1_nextOnTimetable, .instanceMethod yX1_nextOnTimetable, .selects RX1 yX1_nextOnTimetable yX1_nextOnTimetable, .initialized RX1, .code yX1_nextOnTimetable cX1_nextOnTimetable 6 (some .int), .methodLink RX1 47 yX1_isCancelled, .instanceMethod yX1_isCancelled, .selects RX1 yX1_isCancelled yX1_isCancelled, .code yX1_isCancelled cX1_isCancelled 5 (some .boolean), .methodLink RX1 51 yX1_sinceTurn, .instanceMethod yX1_sinceTurn, .selects RX1 yX1_sinceTurn yX1_sinceTurn, .code yX1_sinceTurn cX1_sinceTurn 2 (some .int)]
theorem oi_X1_nextLeaving : ∀ w ∈ o_X1_nextLeaving, w ∈ wGT := wGT_of _ [247, 249, 8, 54, 250, 251, 253, 9, 254, 255, 257, 10, 258] (by decide +kernel) (by decide +kernel)
def ct_X1_nextLeaving : List (Instr × Nat) := [(.invokevirtual 44, 3), (.invokevirtual 47, 3), (.invokevirtual 51, 2)]
abbrev rm_X1_nextLeaving : Room := { frames := 1, cells := 0, slots := 0, locals := 25 }
def b_X1_nextLeaving_0 : List wAn := [(.aload_n 0, 1, 0, 0, 0), (.iload_n 1, 1, 0, 0, 0), (.iload_n 2, 1, 0, 0, 0), (.invokevirtual 44, 3, 0, 0, 3), (.istore_n 3, 1, 0, 0, 0), (.aload_n 0, 1, 0, 0, 0), (.iload_n 1, 1, 0, 0, 0), (.iload_n 3, 1, 0, 0, 0), (.invokevirtual 47, 3, 1, 0, 3), (.ifCond .eq 20, 3, 33, 0, 0), (.aload_n 0, 1, 0, 0, 0), (.iload_n 1, 1, 0, 0, 0), (.iload_n 3, 1, 0, 0, 0), (.aload_n 0, 1, 0, 0, 0), (.iload_n 3, 1, 0, 0, 0), (.invokevirtual 51, 3, 2, 0, 2), (.isub, 1, 0, 0, 0), (.sipush 360, 3, 0, 0, 0), (.iadd, 1, 0, 0, 0), (.invokevirtual 44, 3, 0, 0, 3), (.istore_n 3, 1, 0, 0, 0)]
def b_X1_nextLeaving_33 : List wAn := [(.iload_n 3, 1, 0, 0, 0), (.sipush 1439, 3, 0, 0, 0), (.if_icmp .le 7, 3, 44, 0, 0), (.iconst (-1), 1, 0, 0, 0), (.goto 4, 3, 45, 0, 0)]
def b_X1_nextLeaving_44 : List wAn := [(.iload_n 3, 1, 0, 0, 0)]
def b_X1_nextLeaving_45 : List wAn := [(.ireturn, 1, 0, 0, 0)]
def q_X1_nextLeaving : List (Nat × List wAn) := [(0, b_X1_nextLeaving_0), (33, b_X1_nextLeaving_33), (44, b_X1_nextLeaving_44), (45, b_X1_nextLeaving_45)]
abbrev ck_X1_nextLeaving : List wAn → Nat → Bool := w_ckB o_X1_nextLeaving RX1 vwCl 4 cX1_nextLeaving ct_X1_nextLeaving
theorem cq_X1_nextLeaving : q_X1_nextLeaving.all (fun q => ck_X1_nextLeaving q.2 q.1) = true := by decide +kernel
def o_X1_nextCheapLeaving : List Cond := [.fieldLink RX1 9 RX1 "numbers" "[I", .methodLink RX1 29 yX1_nextLeaving, .instanceMethod yX1_nextLeaving, .selects RX1 yX1_nextLeaving yX1_nextLeaving, .initialized RX1, .code yX1_nextLeaving cX1_nextLeaving 4 (some .int), .methodLink RX1 41 yX1_minuteOfHour, .instanceMethod yX1_minuteOfHour, .selects RX1 yX1_minuteOfHour yX1_minuteOfHour, .code yX1_minuteOfHour cX1_minuteOfHour 3 (some .int)] ++ wsX10
theorem oi_X1_nextCheapLeaving : ∀ w ∈ o_X1_nextCheapLeaving, w ∈ wGT := wGT_of _ [83, 340, 244, 245, 54, 246, 300, 302, 13, 303, 84] (by decide +kernel) (by decide +kernel)
def ct_X1_nextCheapLeaving : List (Instr × Nat) := [(.invokevirtual 29, 3), (.invokevirtual 41, 3)]
abbrev rm_X1_nextCheapLeaving : Room := { frames := 2, cells := 0, slots := 0, locals := 48 }
def b_X1_nextCheapLeaving_0 : List wAn := [(.aload_n 0, 1, 0, 0, 0), (.getfield 9, 3, 0, 1, 0), (.iconst 2, 1, 0, 0, 0), (.iaload, 1, 1, 0, 0), (.istore_n 3, 1, 0, 0, 0), (.aload_n 0, 1, 0, 0, 0), (.iload_n 1, 1, 0, 0, 0), (.iload_n 2, 1, 0, 0, 0), (.invokevirtual 29, 3, 0, 0, 3), (.istore 4, 2, 0, 0, 0), (.iconst 0, 1, 0, 0, 0), (.istore 5, 2, 0, 0, 0)]
def b_X1_nextCheapLeaving_18 : List wAn := [(.iload 5, 2, 0, 0, 0), (.sipush 1439, 3, 0, 0, 0), (.if_icmp .gt 47, 3, 70, 0, 0), (.iload 4, 2, 0, 0, 0), (.iconst (-1), 1, 0, 0, 0), (.if_icmp .eq 41, 3, 70, 0, 0), (.aload_n 0, 1, 0, 0, 0), (.iload_n 1, 1, 0, 0, 0), (.iload 4, 2, 0, 0, 0), (.invokevirtual 41, 3, 1, 0, 3), (.istore 6, 2, 0, 0, 0), (.iload 6, 2, 0, 0, 0), (.iload_n 3, 1, 0, 0, 0), (.if_icmp .lt 6, 3, 50, 0, 0), (.iload 4, 2, 0, 0, 0), (.ireturn, 1, 0, 0, 0)]
def b_X1_nextCheapLeaving_50 : List wAn := [(.aload_n 0, 1, 0, 0, 0), (.iload_n 1, 1, 0, 0, 0), (.iload 4, 2, 0, 0, 0), (.iload 6, 2, 0, 0, 0), (.isub, 1, 0, 0, 0), (.iload_n 3, 1, 0, 0, 0), (.iadd, 1, 0, 0, 0), (.invokevirtual 29, 3, 0, 0, 3), (.istore 4, 2, 0, 0, 0), (.iinc 5 1, 3, 0, 0, 0), (.goto (-49), 3, 18, 0, 0)]
def b_X1_nextCheapLeaving_70 : List wAn := [(.iconst (-1), 1, 0, 0, 0), (.ireturn, 1, 0, 0, 0)]
def q_X1_nextCheapLeaving : List (Nat × List wAn) := [(0, b_X1_nextCheapLeaving_0), (18, b_X1_nextCheapLeaving_18), (50, b_X1_nextCheapLeaving_50), (70, b_X1_nextCheapLeaving_70)]
abbrev ck_X1_nextCheapLeaving : List wAn → Nat → Bool := w_ckB o_X1_nextCheapLeaving RX1 vwCl 7 cX1_nextCheapLeaving ct_X1_nextCheapLeaving
theorem cq_X1_nextCheapLeaving : q_X1_nextCheapLeaving.all (fun q => ck_X1_nextCheapLeaving q.2 q.1) = true := by decide +kernel
def o_X1_lastLeaving : List Cond := [.methodLink RX1 55 yJ9_min_7cf53, .static yJ9_min_7cf53, .initialized RJ9, .code yJ9_min_7cf53 cJ9_min_7cf53 2 (some .int), .methodLink RX1 60 yX1_lastOnTimetable, .instanceMethod yX1_lastOnTimetable, .selects RX1 yX1_lastOnTimetable yX1_lastOnTimetable, .initialized RX1, .code yX1_lastOnTimetable cX1_lastOnTimetable 5 (some .int), .methodLink RX1 47 yX1_isCancelled, .instanceMethod yX1_isCancelled, .selects RX1 yX1_isCancelled yX1_isCancelled, .code yX1_isCancelled cX1_isCancelled 5 (some .boolean), .methodLink RX1 51 yX1_sinceTurn, .instanceMethod yX1_sinceTurn, .selects RX1 yX1_sinceTurn yX1_sinceTurn, .code yX1_sinceTurn cX1_sinceTurn 2 (some .int)]
theorem oi_X1_lastLeaving : ∀ w ∈ o_X1_lastLeaving, w ∈ wGT := wGT_of _ [365, 325, 66, 326, 366, 368, 22, 54, 369, 251, 253, 9, 254, 255, 257, 10, 258] (by decide +kernel) (by decide +kernel)
def ct_X1_lastLeaving : List (Instr × Nat) := [(.invokestatic 55, 2), (.invokevirtual 60, 3), (.invokevirtual 47, 3), (.invokevirtual 51, 2)]
abbrev rm_X1_lastLeaving : Room := { frames := 1, cells := 0, slots := 0, locals := 24 }
def b_X1_lastLeaving_0 : List wAn := [(.aload_n 0, 1, 0, 0, 0), (.iload_n 1, 1, 0, 0, 0), (.iload_n 2, 1, 0, 0, 0), (.sipush 1439, 3, 0, 0, 0), (.invokestatic 55, 3, 0, 1, 2), (.invokevirtual 60, 3, 1, 0, 3), (.istore_n 3, 1, 0, 0, 0), (.iload_n 3, 1, 0, 0, 0), (.iconst (-1), 1, 0, 0, 0), (.if_icmp .eq 27, 3, 42, 0, 0), (.aload_n 0, 1, 0, 0, 0), (.iload_n 1, 1, 0, 0, 0), (.iload_n 3, 1, 0, 0, 0), (.invokevirtual 47, 3, 2, 0, 3), (.ifCond .eq 18, 3, 42, 0, 0), (.aload_n 0, 1, 0, 0, 0), (.iload_n 1, 1, 0, 0, 0), (.iload_n 3, 1, 0, 0, 0), (.aload_n 0, 1, 0, 0, 0), (.iload_n 3, 1, 0, 0, 0), (.invokevirtual 51, 3, 3, 0, 2), (.isub, 1, 0, 0, 0), (.iconst 1, 1, 0, 0, 0), (.isub, 1, 0, 0, 0), (.invokevirtual 60, 3, 1, 0, 3), (.istore_n 3, 1, 0, 0, 0)]
def b_X1_lastLeaving_42 : List wAn := [(.iload_n 3, 1, 0, 0, 0), (.ireturn, 1, 0, 0, 0)]
def q_X1_lastLeaving : List (Nat × List wAn) := [(0, b_X1_lastLeaving_0), (42, b_X1_lastLeaving_42)]
abbrev ck_X1_lastLeaving : List wAn → Nat → Bool := w_ckB o_X1_lastLeaving RX1 vwCl 4 cX1_lastLeaving ct_X1_lastLeaving
theorem cq_X1_lastLeaving : q_X1_lastLeaving.all (fun q => ck_X1_lastLeaving q.2 q.1) = true := by decide +kernel
def o_X1_nextOnTimetable : List Cond := [.fieldLink RX1 9 RX1 "numbers" "[I"] ++ wsX10
theorem oi_X1_nextOnTimetable : ∀ w ∈ o_X1_nextOnTimetable, w ∈ wGT := wGT_of _ [83, 84] (by decide +kernel) (by decide +kernel)
def ct_X1_nextOnTimetable : List (Instr × Nat) := []
abbrev rm_X1_nextOnTimetable : Room := { frames := 0, cells := 0, slots := 0, locals := 0 }
def b_X1_nextOnTimetable_0 : List wAn := [(.aload_n 0, 1, 0, 0, 0), (.getfield 9, 3, 0, 1, 0), (.bipush 23, 2, 0, 0, 0), (.iload_n 1, 1, 0, 0, 0), (.bipush 9, 2, 0, 0, 0), (.imul, 1, 0, 0, 0), (.iadd, 1, 0, 0, 0), (.iconst 2, 1, 0, 0, 0), (.iadd, 1, 0, 0, 0), (.iaload, 1, 1, 0, 0), (.istore_n 3, 1, 0, 0, 0), (.aload_n 0, 1, 0, 0, 0), (.getfield 9, 3, 0, 1, 0), (.bipush 23, 2, 0, 0, 0), (.iload_n 1, 1, 0, 0, 0), (.bipush 9, 2, 0, 0, 0), (.imul, 1, 0, 0, 0), (.iadd, 1, 0, 0, 0), (.iconst 3, 1, 0, 0, 0), (.iadd, 1, 0, 0, 0), (.iaload, 1, 1, 0, 0), (.istore 4, 2, 0, 0, 0), (.iload_n 2, 1, 0, 0, 0), (.iload_n 3, 1, 0, 0, 0), (.if_icmp .le 9, 3, 42, 0, 0), (.iload 4, 2, 0, 0, 0), (.iconst 1, 1, 0, 0, 0), (.if_icmp .ge 5, 3, 44, 0, 0)]
def b_X1_nextOnTimetable_42 : List wAn := [(.iload_n 3, 1, 0, 0, 0), (.ireturn, 1, 0, 0, 0)]
def b_X1_nextOnTimetable_44 : List wAn := [(.iload_n 2, 1, 0, 0, 0), (.iload_n 3, 1, 0, 0, 0), (.isub, 1, 0, 0, 0), (.iload 4, 2, 0, 0, 0), (.irem, 1, 0, 0, 0), (.istore 5, 2, 0, 0, 0), (.iload 5, 2, 0, 0, 0), (.ifCond .ne 7, 3, 61, 0, 0), (.iload_n 2, 1, 0, 0, 0), (.goto 10, 3, 68, 0, 0)]
def b_X1_nextOnTimetable_61 : List wAn := [(.iload_n 2, 1, 0, 0, 0), (.iload 5, 2, 0, 0, 0), (.isub, 1, 0, 0, 0), (.iload 4, 2, 0, 0, 0), (.iadd, 1, 0, 0, 0)]
def b_X1_nextOnTimetable_68 : List wAn := [(.ireturn, 1, 0, 0, 0)]
def q_X1_nextOnTimetable : List (Nat × List wAn) := [(0, b_X1_nextOnTimetable_0), (42, b_X1_nextOnTimetable_42), (44, b_X1_nextOnTimetable_44), (61, b_X1_nextOnTimetable_61), (68, b_X1_nextOnTimetable_68)]
abbrev ck_X1_nextOnTimetable : List wAn → Nat → Bool := w_ckB o_X1_nextOnTimetable RX1 vwCl 6 cX1_nextOnTimetable ct_X1_nextOnTimetable
theorem cq_X1_nextOnTimetable : q_X1_nextOnTimetable.all (fun q => ck_X1_nextOnTimetable q.2 q.1) = true := by decide +kernel
def o_X1_lastOnTimetable : List Cond := [.fieldLink RX1 9 RX1 "numbers" "[I"] ++ wsX10
theorem oi_X1_lastOnTimetable : ∀ w ∈ o_X1_lastOnTimetable, w ∈ wGT := wGT_of _ [83, 84] (by decide +kernel) (by decide +kernel)
def ct_X1_lastOnTimetable : List (Instr × Nat) := []
abbrev rm_X1_lastOnTimetable : Room := { frames := 0, cells := 0, slots := 0, locals := 0 }
def b_X1_lastOnTimetable_0 : List wAn := [(.aload_n 0, 1, 0, 0, 0), (.getfield 9, 3, 0, 1, 0), (.bipush 23, 2, 0, 0, 0), (.iload_n 1, 1, 0, 0, 0), (.bipush 9, 2, 0, 0, 0), (.imul, 1, 0, 0, 0), (.iadd, 1, 0, 0, 0), (.iconst 2, 1, 0, 0, 0), (.iadd, 1, 0, 0, 0), (.iaload, 1, 1, 0, 0), (.istore_n 3, 1, 0, 0, 0), (.aload_n 0, 1, 0, 0, 0), (.getfield 9, 3, 0, 1, 0), (.bipush 23, 2, 0, 0, 0), (.iload_n 1, 1, 0, 0, 0), (.bipush 9, 2, 0, 0, 0), (.imul, 1, 0, 0, 0), (.iadd, 1, 0, 0, 0), (.iconst 3, 1, 0, 0, 0), (.iadd, 1, 0, 0, 0), (.iaload, 1, 1, 0, 0), (.istore 4, 2, 0, 0, 0), (.iload_n 2, 1, 0, 0, 0), (.iload_n 3, 1, 0, 0, 0), (.if_icmp .lt 9, 3, 42, 0, 0), (.iload 4, 2, 0, 0, 0), (.iconst 1, 1, 0, 0, 0), (.if_icmp .ge 5, 3, 44, 0, 0)]
def b_X1_lastOnTimetable_42 : List wAn := [(.iconst (-1), 1, 0, 0, 0), (.ireturn, 1, 0, 0, 0)]
def b_X1_lastOnTimetable_44 : List wAn := [(.iload_n 2, 1, 0, 0, 0), (.iload_n 2, 1, 0, 0, 0), (.iload_n 3, 1, 0, 0, 0), (.isub, 1, 0, 0, 0), (.iload 4, 2, 0, 0, 0), (.irem, 1, 0, 0, 0), (.isub, 1, 0, 0, 0), (.ireturn, 1, 0, 0, 0)]
def q_X1_lastOnTimetable : List (Nat × List wAn) := [(0, b_X1_lastOnTimetable_0), (42, b_X1_lastOnTimetable_42), (44, b_X1_lastOnTimetable_44)]
abbrev ck_X1_lastOnTimetable : List wAn → Nat → Bool := w_ckB o_X1_lastOnTimetable RX1 vwCl 5 cX1_lastOnTimetable ct_X1_lastOnTimetable
theorem cq_X1_lastOnTimetable : q_X1_lastOnTimetable.all (fun q => ck_X1_lastOnTimetable q.2 q.1) = true := by decide +kernel
def o_X1_isCancelled : List Cond := [.fieldLink RX1 9 RX1 "numbers" "[I"] ++ wsX10
theorem oi_X1_isCancelled : ∀ w ∈ o_X1_isCancelled, w ∈ wGT := wGT_of _ [83, 84] (by decide +kernel) (by decide +kernel)
def ct_X1_isCancelled : List (Instr × Nat) := []
abbrev rm_X1_isCancelled : Room := { frames := 0, cells := 0, slots := 0, locals := 0 }
def b_X1_isCancelled_0 : List wAn := [(.aload_n 0, 1, 0, 0, 0), (.getfield 9, 3, 0, 1, 0), (.bipush 23, 2, 0, 0, 0), (.iload_n 1, 1, 0, 0, 0), (.bipush 9, 2, 0, 0, 0), (.imul, 1, 0, 0, 0), (.iadd, 1, 0, 0, 0), (.bipush 6, 2, 0, 0, 0), (.iadd, 1, 0, 0, 0), (.iaload, 1, 1, 0, 0), (.istore_n 3, 1, 0, 0, 0), (.iload_n 2, 1, 0, 0, 0), (.aload_n 0, 1, 0, 0, 0), (.getfield 9, 3, 0, 1, 0), (.iconst 1, 1, 0, 0, 0), (.iaload, 1, 1, 0, 0), (.iadd, 1, 0, 0, 0), (.sipush 720, 3, 0, 0, 0), (.irem, 1, 0, 0, 0), (.sipush 360, 3, 0, 0, 0), (.if_icmp .ge 7, 3, 38, 0, 0), (.iconst 1, 1, 0, 0, 0), (.goto 4, 3, 39, 0, 0)]
def b_X1_isCancelled_38 : List wAn := [(.iconst 0, 1, 0, 0, 0)]
def b_X1_isCancelled_39 : List wAn := [(.istore 4, 2, 0, 0, 0), (.iload_n 3, 1, 0, 0, 0), (.iconst 1, 1, 0, 0, 0), (.if_icmp .ne 8, 3, 51, 0, 0), (.iload 4, 2, 0, 0, 0), (.ifCond .eq 13, 3, 61, 0, 0)]
def b_X1_isCancelled_51 : List wAn := [(.iload_n 3, 1, 0, 0, 0), (.iconst 2, 1, 0, 0, 0), (.if_icmp .ne 12, 3, 65, 0, 0), (.iload 4, 2, 0, 0, 0), (.ifCond .eq 7, 3, 65, 0, 0)]
def b_X1_isCancelled_61 : List wAn := [(.iconst 1, 1, 0, 0, 0), (.goto 4, 3, 66, 0, 0)]
def b_X1_isCancelled_65 : List wAn := [(.iconst 0, 1, 0, 0, 0)]
def b_X1_isCancelled_66 : List wAn := [(.ireturn, 1, 0, 0, 0)]
def q_X1_isCancelled : List (Nat × List wAn) := [(0, b_X1_isCancelled_0), (38, b_X1_isCancelled_38), (39, b_X1_isCancelled_39), (51, b_X1_isCancelled_51), (61, b_X1_isCancelled_61), (65, b_X1_isCancelled_65), (66, b_X1_isCancelled_66)]
abbrev ck_X1_isCancelled : List wAn → Nat → Bool := w_ckB o_X1_isCancelled RX1 vwCl 5 cX1_isCancelled ct_X1_isCancelled
theorem cq_X1_isCancelled : q_X1_isCancelled.all (fun q => ck_X1_isCancelled q.2 q.1) = true := by decide +kernel
def o_X1_sinceTurn : List Cond := [.fieldLink RX1 9 RX1 "numbers" "[I"] ++ wsX10
theorem oi_X1_sinceTurn : ∀ w ∈ o_X1_sinceTurn, w ∈ wGT := wGT_of _ [83, 84] (by decide +kernel) (by decide +kernel)
def ct_X1_sinceTurn : List (Instr × Nat) := []
abbrev rm_X1_sinceTurn : Room := { frames := 0, cells := 0, slots := 0, locals := 0 }
def b_X1_sinceTurn_0 : List wAn := [(.iload_n 1, 1, 0, 0, 0), (.aload_n 0, 1, 0, 0, 0), (.getfield 9, 3, 0, 1, 0), (.iconst 1, 1, 0, 0, 0), (.iaload, 1, 1, 0, 0), (.iadd, 1, 0, 0, 0), (.sipush 360, 3, 0, 0, 0), (.irem, 1, 0, 0, 0), (.ireturn, 1, 0, 0, 0)]
def q_X1_sinceTurn : List (Nat × List wAn) := [(0, b_X1_sinceTurn_0)]
abbrev ck_X1_sinceTurn : List wAn → Nat → Bool := w_ckB o_X1_sinceTurn RX1 vwCl 2 cX1_sinceTurn ct_X1_sinceTurn
theorem cq_X1_sinceTurn : q_X1_sinceTurn.all (fun q => ck_X1_sinceTurn q.2 q.1) = true := by decide +kernel
def o_X2_arrivalAt : List Cond := [.fieldLink RX2 9 RX2 "arrivals" "[I"] ++ wsX20
theorem oi_X2_arrivalAt : ∀ w ∈ o_X2_arrivalAt, w ∈ wGT := wGT_of _ [94, 101, 103, 105, 107, 109, 111, 113] (by decide +kernel) (by decide +kernel)
def ct_X2_arrivalAt : List (Instr × Nat) := []
abbrev rm_X2_arrivalAt : Room := { frames := 0, cells := 0, slots := 0, locals := 0 }
def b_X2_arrivalAt_0 : List wAn := [(.aload_n 0, 1, 0, 0, 0), (.getfield 9, 3, 0, 2, 0), (.iload_n 1, 1, 0, 0, 0), (.iaload, 1, 1, 0, 0), (.ireturn, 1, 0, 0, 0)]
def q_X2_arrivalAt : List (Nat × List wAn) := [(0, b_X2_arrivalAt_0)]
abbrev ck_X2_arrivalAt : List wAn → Nat → Bool := w_ckB o_X2_arrivalAt RX2 vwCl 2 cX2_arrivalAt ct_X2_arrivalAt
theorem cq_X2_arrivalAt : q_X2_arrivalAt.all (fun q => ck_X2_arrivalAt q.2 q.1) = true := by decide +kernel
def o_X2_startFrom : List Cond := [.fieldLink RX2 15 RX2 "starts" "[I"] ++ wsX20
theorem oi_X2_startFrom : ∀ w ∈ o_X2_startFrom, w ∈ wGT := wGT_of _ [95, 101, 103, 105, 107, 109, 111, 113] (by decide +kernel) (by decide +kernel)
def ct_X2_startFrom : List (Instr × Nat) := []
abbrev rm_X2_startFrom : Room := { frames := 0, cells := 0, slots := 0, locals := 0 }
def b_X2_startFrom_0 : List wAn := [(.aload_n 0, 1, 0, 0, 0), (.getfield 15, 3, 0, 2, 1), (.iload_n 1, 1, 0, 0, 0), (.iaload, 1, 2, 0, 0), (.ireturn, 1, 0, 0, 0)]
def q_X2_startFrom : List (Nat × List wAn) := [(0, b_X2_startFrom_0)]
abbrev ck_X2_startFrom : List wAn → Nat → Bool := w_ckB o_X2_startFrom RX2 vwCl 2 cX2_startFrom ct_X2_startFrom
theorem cq_X2_startFrom : q_X2_startFrom.all (fun q => ck_X2_startFrom q.2 q.1) = true := by decide +kernel
def o_X2_fareTo : List Cond := [.fieldLink RX2 18 RX2 "fares" "[I"] ++ wsX20
theorem oi_X2_fareTo : ∀ w ∈ o_X2_fareTo, w ∈ wGT := wGT_of _ [96, 101, 103, 105, 107, 109, 111, 113] (by decide +kernel) (by decide +kernel)
def ct_X2_fareTo : List (Instr × Nat) := []
abbrev rm_X2_fareTo : Room := { frames := 0, cells := 0, slots := 0, locals := 0 }
def b_X2_fareTo_0 : List wAn := [(.aload_n 0, 1, 0, 0, 0), (.getfield 18, 3, 0, 2, 2), (.iload_n 1, 1, 0, 0, 0), (.iaload, 1, 3, 0, 0), (.ireturn, 1, 0, 0, 0)]
def q_X2_fareTo : List (Nat × List wAn) := [(0, b_X2_fareTo_0)]
abbrev ck_X2_fareTo : List wAn → Nat → Bool := w_ckB o_X2_fareTo RX2 vwCl 2 cX2_fareTo ct_X2_fareTo
theorem cq_X2_fareTo : q_X2_fareTo.all (fun q => ck_X2_fareTo q.2 q.1) = true := by decide +kernel
def o_X2_islandsWithin : List Cond := [.fieldLink RX2 18 RX2 "fares" "[I"] ++ wsX20
theorem oi_X2_islandsWithin : ∀ w ∈ o_X2_islandsWithin, w ∈ wGT := wGT_of _ [96, 101, 103, 105, 107, 109, 111, 113] (by decide +kernel) (by decide +kernel)
def ct_X2_islandsWithin : List (Instr × Nat) := []
abbrev rm_X2_islandsWithin : Room := { frames := 0, cells := 0, slots := 0, locals := 0 }
def b_X2_islandsWithin_0 : List wAn := [(.iconst 0, 1, 0, 0, 0), (.istore_n 2, 1, 0, 0, 0), (.iconst 0, 1, 0, 0, 0), (.istore_n 3, 1, 0, 0, 0)]
def b_X2_islandsWithin_4 : List wAn := [(.iload_n 3, 1, 0, 0, 0), (.bipush 8, 2, 0, 0, 0), (.if_icmp .ge 35, 3, 42, 0, 0), (.aload_n 0, 1, 0, 0, 0), (.getfield 18, 3, 0, 2, 2), (.iload_n 3, 1, 0, 0, 0), (.iaload, 1, 3, 0, 0), (.iconst (-1), 1, 0, 0, 0), (.if_icmp .eq 19, 3, 36, 0, 0), (.aload_n 0, 1, 0, 0, 0), (.getfield 18, 3, 0, 2, 2), (.iload_n 3, 1, 0, 0, 0), (.iaload, 1, 3, 0, 0), (.iload_n 1, 1, 0, 0, 0), (.if_icmp .gt 9, 3, 36, 0, 0), (.iload_n 2, 1, 0, 0, 0), (.iconst 1, 1, 0, 0, 0), (.iload_n 3, 1, 0, 0, 0), (.ishl, 1, 0, 0, 0), (.ior, 1, 0, 0, 0), (.istore_n 2, 1, 0, 0, 0)]
def b_X2_islandsWithin_36 : List wAn := [(.iinc 3 1, 3, 0, 0, 0), (.goto (-35), 3, 4, 0, 0)]
def b_X2_islandsWithin_42 : List wAn := [(.iload_n 2, 1, 0, 0, 0), (.ireturn, 1, 0, 0, 0)]
def q_X2_islandsWithin : List (Nat × List wAn) := [(0, b_X2_islandsWithin_0), (4, b_X2_islandsWithin_4), (36, b_X2_islandsWithin_36), (42, b_X2_islandsWithin_42)]
abbrev ck_X2_islandsWithin : List wAn → Nat → Bool := w_ckB o_X2_islandsWithin RX2 vwCl 4 cX2_islandsWithin ct_X2_islandsWithin
theorem cq_X2_islandsWithin : q_X2_islandsWithin.all (fun q => ck_X2_islandsWithin q.2 q.1) = true := by decide +kernel
def o_X2_findArrivals : List Cond := [.fieldLink RX2 9 RX2 "arrivals" "[I", .methodLink RX2 34 yJ7_fill_53178, .static yJ7_fill_53178, .initialized RJ7, .code yJ7_fill_53178 cJ7_fill_53178 4 none, .methodLink RX2 40 yX1_ferryCount, .instanceMethod yX1_ferryCount, .selects RX1 yX1_ferryCount yX1_ferryCount, .initialized RX1, .code yX1_ferryCount cX1_ferryCount 1 (some .int), .methodLink RX2 46 yX2_comesSooner, .instanceMethod yX2_comesSooner, .selects RX2 yX2_comesSooner yX2_comesSooner, .initialized RX2, .code yX2_comesSooner cX2_comesSooner 7 (some .boolean)] ++ wsX20
theorem oi_X2_findArrivals : ∀ w ∈ o_X2_findArrivals, w ∈ wGT := wGT_of _ [94, 228, 229, 65, 230, 231, 232, 233, 54, 234, 235, 237, 7, 55, 238, 101, 103, 105, 107, 109, 111, 113] (by decide +kernel) (by decide +kernel)
def ct_X2_findArrivals : List (Instr × Nat) := [(.invokestatic 34, 2), (.invokevirtual 40, 1), (.invokevirtual 46, 3)]
abbrev rm_X2_findArrivals : Room := { frames := 3, cells := 0, slots := 0, locals := 74 }
def b_X2_findArrivals_0 : List wAn := [(.aload_n 0, 1, 0, 0, 0), (.getfield 9, 3, 0, 2, 0), (.iconst (-1), 1, 0, 0, 0), (.invokestatic 34, 3, 0, 101, 2), (.aload_n 0, 1, 0, 0, 0), (.getfield 9, 3, 0, 2, 0), (.iload_n 2, 1, 0, 0, 0), (.iload_n 3, 1, 0, 0, 0), (.iastore, 1, 1, 0, 0), (.iconst 1, 1, 0, 0, 0), (.istore 4, 2, 0, 0, 0), (.iconst 1, 1, 0, 0, 0), (.istore 5, 2, 0, 0, 0)]
def b_X2_findArrivals_21 : List wAn := [(.iload 5, 2, 0, 0, 0), (.bipush 8, 2, 0, 0, 0), (.if_icmp .ge 48, 3, 73, 0, 0), (.iload 4, 2, 0, 0, 0), (.ifCond .eq 43, 3, 73, 0, 0), (.iconst 0, 1, 0, 0, 0), (.istore 4, 2, 0, 0, 0), (.iconst 0, 1, 0, 0, 0), (.istore 6, 2, 0, 0, 0)]
def b_X2_findArrivals_39 : List wAn := [(.iload 6, 2, 0, 0, 0), (.aload_n 1, 1, 0, 0, 0), (.invokevirtual 40, 3, 1, 702, 1), (.if_icmp .ge 22, 3, 67, 0, 0), (.aload_n 0, 1, 0, 0, 0), (.aload_n 1, 1, 0, 0, 0), (.iload 6, 2, 0, 0, 0), (.invokevirtual 46, 3, 2, 0, 3), (.ifCond .eq 6, 3, 61, 0, 0), (.iconst 1, 1, 0, 0, 0), (.istore 4, 2, 0, 0, 0)]
def b_X2_findArrivals_61 : List wAn := [(.iinc 6 1, 3, 0, 0, 0), (.goto (-25), 3, 39, 0, 0)]
def b_X2_findArrivals_67 : List wAn := [(.iinc 5 1, 3, 0, 0, 0), (.goto (-49), 3, 21, 0, 0)]
def b_X2_findArrivals_73 : List wAn := [(.return_, 1, 0, 0, 0)]
def q_X2_findArrivals : List (Nat × List wAn) := [(0, b_X2_findArrivals_0), (21, b_X2_findArrivals_21), (39, b_X2_findArrivals_39), (61, b_X2_findArrivals_61), (67, b_X2_findArrivals_67), (73, b_X2_findArrivals_73)]
abbrev ck_X2_findArrivals : List wAn → Nat → Bool := w_ckB o_X2_findArrivals RX2 vwCl 7 cX2_findArrivals ct_X2_findArrivals
theorem cq_X2_findArrivals : q_X2_findArrivals.all (fun q => ck_X2_findArrivals q.2 q.1) = true := by decide +kernel
def o_X2_comesSooner : List Cond := [.fieldLink RX2 9 RX2 "arrivals" "[I", .methodLink RX2 50 yX1_ferryNumber, .instanceMethod yX1_ferryNumber, .selects RX1 yX1_ferryNumber yX1_ferryNumber, .initialized RX1, .code yX1_ferryNumber cX1_ferryNumber 3 (some .int), .methodLink RX2 54 yX1_nextLeaving, .instanceMethod yX1_nextLeaving, .selects RX1 yX1_nextLeaving yX1_nextLeaving, .code yX1_nextLeaving cX1_nextLeaving 4 (some .int)] ++ wsX20
theorem oi_X2_comesSooner : ∀ w ∈ o_X2_comesSooner, w ∈ wGT := wGT_of _ [94, 239, 240, 241, 54, 242, 243, 244, 245, 246, 101, 103, 105, 107, 109, 111, 113] (by decide +kernel) (by decide +kernel)
def ct_X2_comesSooner : List (Instr × Nat) := [(.invokevirtual 50, 3), (.invokevirtual 54, 3)]
abbrev rm_X2_comesSooner : Room := { frames := 2, cells := 0, slots := 0, locals := 48 }
def b_X2_comesSooner_0 : List wAn := [(.aload_n 1, 1, 0, 0, 0), (.iload_n 2, 1, 0, 0, 0), (.iconst 0, 1, 0, 0, 0), (.invokevirtual 50, 3, 0, 702, 3), (.istore_n 3, 1, 0, 0, 0), (.aload_n 1, 1, 0, 0, 0), (.iload_n 2, 1, 0, 0, 0), (.iconst 1, 1, 0, 0, 0), (.invokevirtual 50, 3, 0, 702, 3), (.istore 4, 2, 0, 0, 0), (.aload_n 0, 1, 0, 0, 0), (.getfield 9, 3, 0, 2, 0), (.iload_n 3, 1, 0, 0, 0), (.iaload, 1, 1, 0, 0), (.iconst (-1), 1, 0, 0, 0), (.if_icmp .ne 7, 3, 29, 0, 0), (.iconst (-1), 1, 0, 0, 0), (.goto 14, 3, 40, 0, 0)]
def b_X2_comesSooner_29 : List wAn := [(.aload_n 1, 1, 0, 0, 0), (.iload_n 2, 1, 0, 0, 0), (.aload_n 0, 1, 0, 0, 0), (.getfield 9, 3, 0, 2, 0), (.iload_n 3, 1, 0, 0, 0), (.iaload, 1, 1, 0, 0), (.invokevirtual 54, 3, 1, 702, 3)]
def b_X2_comesSooner_40 : List wAn := [(.istore 5, 2, 0, 0, 0), (.iload 5, 2, 0, 0, 0), (.iconst (-1), 1, 0, 0, 0), (.if_icmp .ne 5, 3, 50, 0, 0), (.iconst 0, 1, 0, 0, 0), (.ireturn, 1, 0, 0, 0)]
def b_X2_comesSooner_50 : List wAn := [(.iload 5, 2, 0, 0, 0), (.aload_n 1, 1, 0, 0, 0), (.iload_n 2, 1, 0, 0, 0), (.iconst 4, 1, 0, 0, 0), (.invokevirtual 50, 3, 0, 702, 3), (.iadd, 1, 0, 0, 0), (.istore 6, 2, 0, 0, 0), (.aload_n 0, 1, 0, 0, 0), (.getfield 9, 3, 0, 2, 0), (.iload 4, 2, 0, 0, 0), (.iaload, 1, 1, 0, 0), (.iconst (-1), 1, 0, 0, 0), (.if_icmp .eq 17, 3, 86, 0, 0), (.aload_n 0, 1, 0, 0, 0), (.getfield 9, 3, 0, 2, 0), (.iload 4, 2, 0, 0, 0), (.iaload, 1, 1, 0, 0), (.iload 6, 2, 0, 0, 0), (.if_icmp .gt 5, 3, 86, 0, 0), (.iconst 0, 1, 0, 0, 0), (.ireturn, 1, 0, 0, 0)]
def b_X2_comesSooner_86 : List wAn := [(.aload_n 0, 1, 0, 0, 0), (.getfield 9, 3, 0, 2, 0), (.iload 4, 2, 0, 0, 0), (.iload 6, 2, 0, 0, 0), (.iastore, 1, 1, 0, 0), (.iconst 1, 1, 0, 0, 0), (.ireturn, 1, 0, 0, 0)]
def q_X2_comesSooner : List (Nat × List wAn) := [(0, b_X2_comesSooner_0), (29, b_X2_comesSooner_29), (40, b_X2_comesSooner_40), (50, b_X2_comesSooner_50), (86, b_X2_comesSooner_86)]
abbrev ck_X2_comesSooner : List wAn → Nat → Bool := w_ckB o_X2_comesSooner RX2 vwCl 7 cX2_comesSooner ct_X2_comesSooner
theorem cq_X2_comesSooner : q_X2_comesSooner.all (fun q => ck_X2_comesSooner q.2 q.1) = true := by decide +kernel
def o_X2_findStarts : List Cond := [.fieldLink RX2 15 RX2 "starts" "[I", .methodLink RX2 34 yJ7_fill_53178, .static yJ7_fill_53178, .initialized RJ7, .code yJ7_fill_53178 cJ7_fill_53178 4 none, .methodLink RX2 40 yX1_ferryCount, .instanceMethod yX1_ferryCount, .selects RX1 yX1_ferryCount yX1_ferryCount, .initialized RX1, .code yX1_ferryCount cX1_ferryCount 1 (some .int), .methodLink RX2 57 yX2_startsLater, .instanceMethod yX2_startsLater, .selects RX2 yX2_startsLater yX2_startsLater, .initialized RX2, .code yX2_startsLater cX2_startsLater 6 (some .boolean)] ++ wsX20
theorem oi_X2_findStarts : ∀ w ∈ o_X2_findStarts, w ∈ wGT := wGT_of _ [95, 228, 229, 65, 230, 231, 232, 233, 54, 234, 357, 359, 21, 55, 360, 101, 103, 105, 107, 109, 111, 113] (by decide +kernel) (by decide +kernel)
def ct_X2_findStarts : List (Instr × Nat) := [(.invokestatic 34, 2), (.invokevirtual 40, 1), (.invokevirtual 57, 3)]
abbrev rm_X2_findStarts : Room := { frames := 3, cells := 0, slots := 0, locals := 72 }
def b_X2_findStarts_0 : List wAn := [(.aload_n 0, 1, 0, 0, 0), (.getfield 15, 3, 0, 2, 1), (.iconst (-1), 1, 0, 0, 0), (.invokestatic 34, 3, 0, 201, 2), (.aload_n 0, 1, 0, 0, 0), (.getfield 15, 3, 0, 2, 1), (.iload_n 2, 1, 0, 0, 0), (.iload_n 3, 1, 0, 0, 0), (.iastore, 1, 2, 0, 0), (.iconst 1, 1, 0, 0, 0), (.istore 4, 2, 0, 0, 0), (.iconst 1, 1, 0, 0, 0), (.istore 5, 2, 0, 0, 0)]
def b_X2_findStarts_21 : List wAn := [(.iload 5, 2, 0, 0, 0), (.bipush 8, 2, 0, 0, 0), (.if_icmp .ge 48, 3, 73, 0, 0), (.iload 4, 2, 0, 0, 0), (.ifCond .eq 43, 3, 73, 0, 0), (.iconst 0, 1, 0, 0, 0), (.istore 4, 2, 0, 0, 0), (.iconst 0, 1, 0, 0, 0), (.istore 6, 2, 0, 0, 0)]
def b_X2_findStarts_39 : List wAn := [(.iload 6, 2, 0, 0, 0), (.aload_n 1, 1, 0, 0, 0), (.invokevirtual 40, 3, 1, 702, 1), (.if_icmp .ge 22, 3, 67, 0, 0), (.aload_n 0, 1, 0, 0, 0), (.aload_n 1, 1, 0, 0, 0), (.iload 6, 2, 0, 0, 0), (.invokevirtual 57, 3, 2, 0, 3), (.ifCond .eq 6, 3, 61, 0, 0), (.iconst 1, 1, 0, 0, 0), (.istore 4, 2, 0, 0, 0)]
def b_X2_findStarts_61 : List wAn := [(.iinc 6 1, 3, 0, 0, 0), (.goto (-25), 3, 39, 0, 0)]
def b_X2_findStarts_67 : List wAn := [(.iinc 5 1, 3, 0, 0, 0), (.goto (-49), 3, 21, 0, 0)]
def b_X2_findStarts_73 : List wAn := [(.return_, 1, 0, 0, 0)]
def q_X2_findStarts : List (Nat × List wAn) := [(0, b_X2_findStarts_0), (21, b_X2_findStarts_21), (39, b_X2_findStarts_39), (61, b_X2_findStarts_61), (67, b_X2_findStarts_67), (73, b_X2_findStarts_73)]
abbrev ck_X2_findStarts : List wAn → Nat → Bool := w_ckB o_X2_findStarts RX2 vwCl 7 cX2_findStarts ct_X2_findStarts
theorem cq_X2_findStarts : q_X2_findStarts.all (fun q => ck_X2_findStarts q.2 q.1) = true := by decide +kernel
def o_X2_startsLater : List Cond := [.fieldLink RX2 15 RX2 "starts" "[I", .methodLink RX2 50 yX1_ferryNumber, .instanceMethod yX1_ferryNumber, .selects RX1 yX1_ferryNumber yX1_ferryNumber, .initialized RX1, .code yX1_ferryNumber cX1_ferryNumber 3 (some .int), .methodLink RX2 60 yX1_lastLeaving, .instanceMethod yX1_lastLeaving, .selects RX1 yX1_lastLeaving yX1_lastLeaving, .code yX1_lastLeaving cX1_lastLeaving 4 (some .int)] ++ wsX20
theorem oi_X2_startsLater : ∀ w ∈ o_X2_startsLater, w ∈ wGT := wGT_of _ [95, 239, 240, 241, 54, 242, 361, 362, 363, 364, 101, 103, 105, 107, 109, 111, 113] (by decide +kernel) (by decide +kernel)
def ct_X2_startsLater : List (Instr × Nat) := [(.invokevirtual 50, 3), (.invokevirtual 60, 3)]
abbrev rm_X2_startsLater : Room := { frames := 2, cells := 0, slots := 0, locals := 47 }
def b_X2_startsLater_0 : List wAn := [(.aload_n 1, 1, 0, 0, 0), (.iload_n 2, 1, 0, 0, 0), (.iconst 0, 1, 0, 0, 0), (.invokevirtual 50, 3, 0, 702, 3), (.istore_n 3, 1, 0, 0, 0), (.aload_n 1, 1, 0, 0, 0), (.iload_n 2, 1, 0, 0, 0), (.iconst 1, 1, 0, 0, 0), (.invokevirtual 50, 3, 0, 702, 3), (.istore 4, 2, 0, 0, 0), (.aload_n 0, 1, 0, 0, 0), (.getfield 15, 3, 0, 2, 1), (.iload 4, 2, 0, 0, 0), (.iaload, 1, 2, 0, 0), (.iconst (-1), 1, 0, 0, 0), (.if_icmp .ne 5, 3, 28, 0, 0), (.iconst 0, 1, 0, 0, 0), (.ireturn, 1, 0, 0, 0)]
def b_X2_startsLater_28 : List wAn := [(.aload_n 1, 1, 0, 0, 0), (.iload_n 2, 1, 0, 0, 0), (.aload_n 0, 1, 0, 0, 0), (.getfield 15, 3, 0, 2, 1), (.iload 4, 2, 0, 0, 0), (.iaload, 1, 2, 0, 0), (.aload_n 1, 1, 0, 0, 0), (.iload_n 2, 1, 0, 0, 0), (.iconst 4, 1, 0, 0, 0), (.invokevirtual 50, 3, 0, 702, 3), (.isub, 1, 0, 0, 0), (.invokevirtual 60, 3, 1, 702, 3), (.istore 5, 2, 0, 0, 0), (.iload 5, 2, 0, 0, 0), (.aload_n 0, 1, 0, 0, 0), (.getfield 15, 3, 0, 2, 1), (.iload_n 3, 1, 0, 0, 0), (.iaload, 1, 2, 0, 0), (.if_icmp .gt 5, 3, 62, 0, 0), (.iconst 0, 1, 0, 0, 0), (.ireturn, 1, 0, 0, 0)]
def b_X2_startsLater_62 : List wAn := [(.aload_n 0, 1, 0, 0, 0), (.getfield 15, 3, 0, 2, 1), (.iload_n 3, 1, 0, 0, 0), (.iload 5, 2, 0, 0, 0), (.iastore, 1, 2, 0, 0), (.iconst 1, 1, 0, 0, 0), (.ireturn, 1, 0, 0, 0)]
def q_X2_startsLater : List (Nat × List wAn) := [(0, b_X2_startsLater_0), (28, b_X2_startsLater_28), (62, b_X2_startsLater_62)]
abbrev ck_X2_startsLater : List wAn → Nat → Bool := w_ckB o_X2_startsLater RX2 vwCl 6 cX2_startsLater ct_X2_startsLater
theorem cq_X2_startsLater : q_X2_startsLater.all (fun q => ck_X2_startsLater q.2 q.1) = true := by decide +kernel
def o_X2_findFares : List Cond := [.fieldLink RX2 18 RX2 "fares" "[I", .fieldLink RX2 21 RX2 "boardings" "[I", .fieldLink RX2 30 RX2 "nextBoarding" "I", .fieldLink RX2 24 RX2 "comers" "[I", .methodLink RX2 34 yJ7_fill_53178, .static yJ7_fill_53178, .initialized RJ7, .code yJ7_fill_53178 cJ7_fill_53178 4 none, .methodLink RX2 63 yX2_comeTo, .instanceMethod yX2_comeTo, .selects RX2 yX2_comeTo yX2_comeTo, .initialized RX2, .code yX2_comeTo cX2_comeTo 6 none, .methodLink RX2 67 yX2_letCome, .instanceMethod yX2_letCome, .selects RX2 yX2_letCome yX2_letCome, .code yX2_letCome cX2_letCome 5 none, .methodLink RX2 71 yX2_letBoard, .instanceMethod yX2_letBoard, .selects RX2 yX2_letBoard yX2_letBoard, .code yX2_letBoard cX2_letBoard 8 none] ++ wsX20
theorem oi_X2_findFares : ∀ w ∈ o_X2_findFares, w ∈ wGT := wGT_of _ [96, 97, 100, 98, 228, 229, 65, 230, 317, 319, 16, 55, 320, 327, 329, 17, 330, 331, 333, 18, 334, 101, 103, 105, 107, 109, 111, 113] (by decide +kernel) (by decide +kernel)
def ct_X2_findFares : List (Instr × Nat) := [(.invokestatic 34, 2), (.invokevirtual 63, 5), (.invokevirtual 67, 3), (.invokevirtual 71, 4)]
abbrev rm_X2_findFares : Room := { frames := 4, cells := 0, slots := 0, locals := 101 }
def b_X2_findFares_0 : List wAn := [(.aload_n 0, 1, 0, 0, 0), (.getfield 18, 3, 0, 2, 2), (.iconst (-1), 1, 0, 0, 0), (.invokestatic 34, 3, 0, 301, 2), (.aload_n 0, 1, 0, 0, 0), (.getfield 21, 3, 0, 2, 3), (.sipush 1540, 3, 0, 0, 0), (.invokestatic 34, 3, 0, 401, 2), (.aload_n 0, 1, 0, 0, 0), (.sipush 1540, 3, 0, 0, 0), (.putfield 30, 3, 0, 2, 6), (.aload_n 0, 1, 0, 0, 0), (.aload_n 1, 1, 0, 0, 0), (.iload_n 2, 1, 0, 0, 0), (.iload_n 3, 1, 0, 0, 0), (.iconst 0, 1, 0, 0, 0), (.invokevirtual 63, 3, 1, 0, 5), (.iload_n 3, 1, 0, 0, 0), (.istore 5, 2, 0, 0, 0)]
def b_X2_findFares_36 : List wAn := [(.iload 5, 2, 0, 0, 0), (.iload 4, 2, 0, 0, 0), (.if_icmp .gt 47, 3, 87, 0, 0), (.aload_n 0, 1, 0, 0, 0), (.getfield 24, 3, 0, 2, 4), (.iload 5, 2, 0, 0, 0), (.bipush 100, 2, 0, 0, 0), (.irem, 1, 0, 0, 0), (.iaload, 1, 5, 0, 0), (.ifCond .eq 10, 3, 63, 0, 0), (.aload_n 0, 1, 0, 0, 0), (.aload_n 1, 1, 0, 0, 0), (.iload 5, 2, 0, 0, 0), (.invokevirtual 67, 3, 2, 0, 3)]
def b_X2_findFares_63 : List wAn := [(.aload_n 0, 1, 0, 0, 0), (.getfield 30, 3, 0, 2, 6), (.iload 5, 2, 0, 0, 0), (.if_icmp .ne 12, 3, 81, 0, 0), (.aload_n 0, 1, 0, 0, 0), (.aload_n 1, 1, 0, 0, 0), (.iload 5, 2, 0, 0, 0), (.iload 4, 2, 0, 0, 0), (.invokevirtual 71, 3, 3, 0, 4)]
def b_X2_findFares_81 : List wAn := [(.iinc 5 1, 3, 0, 0, 0), (.goto (-48), 3, 36, 0, 0)]
def b_X2_findFares_87 : List wAn := [(.return_, 1, 0, 0, 0)]
def q_X2_findFares : List (Nat × List wAn) := [(0, b_X2_findFares_0), (36, b_X2_findFares_36), (63, b_X2_findFares_63), (81, b_X2_findFares_81), (87, b_X2_findFares_87)]
abbrev ck_X2_findFares : List wAn → Nat → Bool := w_ckB o_X2_findFares RX2 vwCl 6 cX2_findFares ct_X2_findFares
theorem cq_X2_findFares : q_X2_findFares.all (fun q => ck_X2_findFares q.2 q.1) = true := by decide +kernel
def o_X2_letCome : List Cond := [.fieldLink RX2 24 RX2 "comers" "[I", .fieldLink RX2 27 RX2 "comersFares" "[I", .methodLink RX2 63 yX2_comeTo, .instanceMethod yX2_comeTo, .selects RX2 yX2_comeTo yX2_comeTo, .initialized RX2, .code yX2_comeTo cX2_comeTo 6 none] ++ wsX20
theorem oi_X2_letCome : ∀ w ∈ o_X2_letCome, w ∈ wGT := wGT_of _ [98, 99, 317, 319, 16, 55, 320, 101, 103, 105, 107, 109, 111, 113] (by decide +kernel) (by decide +kernel)
def ct_X2_letCome : List (Instr × Nat) := [(.invokevirtual 63, 5)]
abbrev rm_X2_letCome : Room := { frames := 3, cells := 0, slots := 0, locals := 73 }
def b_X2_letCome_0 : List wAn := [(.iload_n 2, 1, 0, 0, 0), (.bipush 100, 2, 0, 0, 0), (.irem, 1, 0, 0, 0), (.istore_n 3, 1, 0, 0, 0), (.iconst 0, 1, 0, 0, 0), (.istore 4, 2, 0, 0, 0)]
def b_X2_letCome_8 : List wAn := [(.iload 4, 2, 0, 0, 0), (.bipush 8, 2, 0, 0, 0), (.if_icmp .ge 43, 3, 55, 0, 0), (.aload_n 0, 1, 0, 0, 0), (.getfield 24, 3, 0, 2, 4), (.iload_n 3, 1, 0, 0, 0), (.iaload, 1, 5, 0, 0), (.iconst 1, 1, 0, 0, 0), (.iload 4, 2, 0, 0, 0), (.ishl, 1, 0, 0, 0), (.iand, 1, 0, 0, 0), (.ifCond .eq 23, 3, 49, 0, 0), (.aload_n 0, 1, 0, 0, 0), (.aload_n 1, 1, 0, 0, 0), (.iload 4, 2, 0, 0, 0), (.iload_n 2, 1, 0, 0, 0), (.aload_n 0, 1, 0, 0, 0), (.getfield 27, 3, 0, 2, 5), (.iload_n 3, 1, 0, 0, 0), (.bipush 8, 2, 0, 0, 0), (.imul, 1, 0, 0, 0), (.iload 4, 2, 0, 0, 0), (.iadd, 1, 0, 0, 0), (.iaload, 1, 6, 0, 0), (.invokevirtual 63, 3, 0, 0, 5)]
def b_X2_letCome_49 : List wAn := [(.iinc 4 1, 3, 0, 0, 0), (.goto (-44), 3, 8, 0, 0)]
def b_X2_letCome_55 : List wAn := [(.aload_n 0, 1, 0, 0, 0), (.getfield 24, 3, 0, 2, 4), (.iload_n 3, 1, 0, 0, 0), (.iconst 0, 1, 0, 0, 0), (.iastore, 1, 5, 0, 0), (.return_, 1, 0, 0, 0)]
def q_X2_letCome : List (Nat × List wAn) := [(0, b_X2_letCome_0), (8, b_X2_letCome_8), (49, b_X2_letCome_49), (55, b_X2_letCome_55)]
abbrev ck_X2_letCome : List wAn → Nat → Bool := w_ckB o_X2_letCome RX2 vwCl 5 cX2_letCome ct_X2_letCome
theorem cq_X2_letCome : q_X2_letCome.all (fun q => ck_X2_letCome q.2 q.1) = true := by decide +kernel
def o_X2_comeTo : List Cond := [.fieldLink RX2 18 RX2 "fares" "[I", .fieldLink RX2 21 RX2 "boardings" "[I", .fieldLink RX2 30 RX2 "nextBoarding" "I", .methodLink RX2 40 yX1_ferryCount, .instanceMethod yX1_ferryCount, .selects RX1 yX1_ferryCount yX1_ferryCount, .initialized RX1, .code yX1_ferryCount cX1_ferryCount 1 (some .int), .methodLink RX2 50 yX1_ferryNumber, .instanceMethod yX1_ferryNumber, .selects RX1 yX1_ferryNumber yX1_ferryNumber, .code yX1_ferryNumber cX1_ferryNumber 3 (some .int), .methodLink RX2 54 yX1_nextLeaving, .instanceMethod yX1_nextLeaving, .selects RX1 yX1_nextLeaving yX1_nextLeaving, .code yX1_nextLeaving cX1_nextLeaving 4 (some .int), .methodLink RX2 75 yX2_orNever, .static yX2_orNever, .initialized RX2, .code yX2_orNever cX2_orNever 1 (some .int), .methodLink RX2 79 yJ9_min_7cf53, .static yJ9_min_7cf53, .initialized RJ9, .code yJ9_min_7cf53 cJ9_min_7cf53 2 (some .int)] ++ wsX20
theorem oi_X2_comeTo : ∀ w ∈ o_X2_comeTo, w ∈ wGT := wGT_of _ [96, 97, 100, 231, 232, 233, 54, 234, 239, 240, 241, 242, 243, 244, 245, 246, 321, 322, 55, 323, 324, 325, 66, 326, 101, 103, 105, 107, 109, 111, 113] (by decide +kernel) (by decide +kernel)
def ct_X2_comeTo : List (Instr × Nat) := [(.invokevirtual 40, 1), (.invokevirtual 50, 3), (.invokevirtual 54, 3), (.invokestatic 75, 1), (.invokestatic 79, 2)]
abbrev rm_X2_comeTo : Room := { frames := 2, cells := 0, slots := 0, locals := 48 }
def b_X2_comeTo_0 : List wAn := [(.aload_n 0, 1, 0, 0, 0), (.getfield 18, 3, 0, 2, 2), (.iload_n 2, 1, 0, 0, 0), (.iaload, 1, 3, 0, 0), (.iconst (-1), 1, 0, 0, 0), (.if_icmp .eq 15, 3, 22, 0, 0), (.aload_n 0, 1, 0, 0, 0), (.getfield 18, 3, 0, 2, 2), (.iload_n 2, 1, 0, 0, 0), (.iaload, 1, 3, 0, 0), (.iload 4, 2, 0, 0, 0), (.if_icmp .gt 4, 3, 22, 0, 0), (.return_, 1, 0, 0, 0)]
def b_X2_comeTo_22 : List wAn := [(.aload_n 0, 1, 0, 0, 0), (.getfield 18, 3, 0, 2, 2), (.iload_n 2, 1, 0, 0, 0), (.iload 4, 2, 0, 0, 0), (.iastore, 1, 3, 0, 0), (.iconst 0, 1, 0, 0, 0), (.istore 5, 2, 0, 0, 0)]
def b_X2_comeTo_33 : List wAn := [(.iload 5, 2, 0, 0, 0), (.aload_n 1, 1, 0, 0, 0), (.invokevirtual 40, 3, 0, 702, 1), (.if_icmp .ge 55, 3, 94, 0, 0), (.aload_n 1, 1, 0, 0, 0), (.iload 5, 2, 0, 0, 0), (.iconst 0, 1, 0, 0, 0), (.invokevirtual 50, 3, 1, 702, 3), (.iload_n 2, 1, 0, 0, 0), (.if_icmp .ne 38, 3, 88, 0, 0), (.aload_n 0, 1, 0, 0, 0), (.getfield 21, 3, 0, 2, 3), (.iload 5, 2, 0, 0, 0), (.aload_n 1, 1, 0, 0, 0), (.iload 5, 2, 0, 0, 0), (.iload_n 3, 1, 0, 0, 0), (.invokevirtual 54, 3, 2, 702, 3), (.invokestatic 75, 3, 3, 1, 1), (.iastore, 1, 4, 0, 0), (.aload_n 0, 1, 0, 0, 0), (.aload_n 0, 1, 0, 0, 0), (.getfield 30, 3, 0, 2, 6), (.aload_n 0, 1, 0, 0, 0), (.getfield 21, 3, 0, 2, 3), (.iload 5, 2, 0, 0, 0), (.iaload, 1, 4, 0, 0), (.invokestatic 79, 3, 4, 1, 2), (.putfield 30, 3, 0, 2, 6)]
def b_X2_comeTo_88 : List wAn := [(.iinc 5 1, 3, 0, 0, 0), (.goto (-58), 3, 33, 0, 0)]
def b_X2_comeTo_94 : List wAn := [(.return_, 1, 0, 0, 0)]
def q_X2_comeTo : List (Nat × List wAn) := [(0, b_X2_comeTo_0), (22, b_X2_comeTo_22), (33, b_X2_comeTo_33), (88, b_X2_comeTo_88), (94, b_X2_comeTo_94)]
abbrev ck_X2_comeTo : List wAn → Nat → Bool := w_ckB o_X2_comeTo RX2 vwCl 6 cX2_comeTo ct_X2_comeTo
theorem cq_X2_comeTo : q_X2_comeTo.all (fun q => ck_X2_comeTo q.2 q.1) = true := by decide +kernel
def o_X2_letBoard : List Cond := [.fieldLink RX2 30 RX2 "nextBoarding" "I", .fieldLink RX2 21 RX2 "boardings" "[I", .fieldLink RX2 18 RX2 "fares" "[I", .methodLink RX2 40 yX1_ferryCount, .instanceMethod yX1_ferryCount, .selects RX1 yX1_ferryCount yX1_ferryCount, .initialized RX1, .code yX1_ferryCount cX1_ferryCount 1 (some .int), .methodLink RX2 84 yX1_price, .instanceMethod yX1_price, .selects RX1 yX1_price yX1_price, .code yX1_price cX1_price 4 (some .int), .methodLink RX2 50 yX1_ferryNumber, .instanceMethod yX1_ferryNumber, .selects RX1 yX1_ferryNumber yX1_ferryNumber, .code yX1_ferryNumber cX1_ferryNumber 3 (some .int), .methodLink RX2 87 yX1_nextCheapLeaving, .instanceMethod yX1_nextCheapLeaving, .selects RX1 yX1_nextCheapLeaving yX1_nextCheapLeaving, .code yX1_nextCheapLeaving cX1_nextCheapLeaving 7 (some .int), .methodLink RX2 75 yX2_orNever, .static yX2_orNever, .initialized RX2, .code yX2_orNever cX2_orNever 1 (some .int), .methodLink RX2 90 yX2_expect, .instanceMethod yX2_expect, .selects RX2 yX2_expect yX2_expect, .code yX2_expect cX2_expect 6 none, .methodLink RX2 79 yJ9_min_7cf53, .static yJ9_min_7cf53, .initialized RJ9, .code yJ9_min_7cf53 cJ9_min_7cf53 2 (some .int)] ++ wsX20
theorem oi_X2_letBoard : ∀ w ∈ o_X2_letBoard, w ∈ wGT := wGT_of _ [100, 97, 96, 231, 232, 233, 54, 234, 335, 297, 298, 299, 239, 240, 241, 242, 336, 337, 338, 339, 321, 322, 55, 323, 341, 343, 19, 344, 324, 325, 66, 326, 101, 103, 105, 107, 109, 111, 113] (by decide +kernel) (by decide +kernel)
def ct_X2_letBoard : List (Instr × Nat) := [(.invokevirtual 40, 1), (.invokevirtual 84, 3), (.invokevirtual 50, 3), (.invokevirtual 87, 3), (.invokestatic 75, 1), (.invokevirtual 90, 4), (.invokestatic 79, 2)]
abbrev rm_X2_letBoard : Room := { frames := 3, cells := 0, slots := 0, locals := 74 }
def b_X2_letBoard_0 : List wAn := [(.aload_n 0, 1, 0, 0, 0), (.sipush 1540, 3, 0, 0, 0), (.putfield 30, 3, 0, 2, 6), (.iconst 0, 1, 0, 0, 0), (.istore 4, 2, 0, 0, 0)]
def b_X2_letBoard_10 : List wAn := [(.iload 4, 2, 0, 0, 0), (.aload_n 1, 1, 0, 0, 0), (.invokevirtual 40, 3, 0, 702, 1), (.if_icmp .ge 141, 3, 157, 0, 0), (.aload_n 0, 1, 0, 0, 0), (.getfield 21, 3, 0, 2, 3), (.iload 4, 2, 0, 0, 0), (.iaload, 1, 4, 0, 0), (.iload_n 2, 1, 0, 0, 0), (.if_icmp .ne 106, 3, 133, 0, 0), (.aload_n 1, 1, 0, 0, 0), (.iload 4, 2, 0, 0, 0), (.iload_n 2, 1, 0, 0, 0), (.invokevirtual 84, 3, 1, 702, 3), (.istore 5, 2, 0, 0, 0), (.iload 5, 2, 0, 0, 0), (.aload_n 1, 1, 0, 0, 0), (.iload 4, 2, 0, 0, 0), (.iconst 5, 1, 0, 0, 0), (.invokevirtual 50, 3, 2, 702, 3), (.if_icmp .le 7, 3, 55, 0, 0), (.iconst 1, 1, 0, 0, 0), (.goto 4, 3, 56, 0, 0)]
def b_X2_letBoard_55 : List wAn := [(.iconst 0, 1, 0, 0, 0)]
def b_X2_letBoard_56 : List wAn := [(.istore 6, 2, 0, 0, 0), (.aload_n 0, 1, 0, 0, 0), (.getfield 21, 3, 0, 2, 3), (.iload 4, 2, 0, 0, 0), (.iload 6, 2, 0, 0, 0), (.ifCond .eq 18, 3, 84, 0, 0), (.aload_n 1, 1, 0, 0, 0), (.iload 4, 2, 0, 0, 0), (.iload_n 2, 1, 0, 0, 0), (.iconst 1, 1, 0, 0, 0), (.iadd, 1, 0, 0, 0), (.invokevirtual 87, 3, 3, 702, 3), (.invokestatic 75, 3, 4, 1, 1), (.goto 6, 3, 87, 0, 0)]
def b_X2_letBoard_84 : List wAn := [(.sipush 1540, 3, 0, 0, 0)]
def b_X2_letBoard_87 : List wAn := [(.iastore, 1, 4, 0, 0), (.iload_n 2, 1, 0, 0, 0), (.aload_n 1, 1, 0, 0, 0), (.iload 4, 2, 0, 0, 0), (.iconst 4, 1, 0, 0, 0), (.invokevirtual 50, 3, 2, 702, 3), (.iadd, 1, 0, 0, 0), (.istore 7, 2, 0, 0, 0), (.iload 7, 2, 0, 0, 0), (.iload_n 3, 1, 0, 0, 0), (.if_icmp .gt 31, 3, 133, 0, 0), (.aload_n 0, 1, 0, 0, 0), (.aload_n 1, 1, 0, 0, 0), (.iload 4, 2, 0, 0, 0), (.iconst 1, 1, 0, 0, 0), (.invokevirtual 50, 3, 2, 702, 3), (.iload 7, 2, 0, 0, 0), (.aload_n 0, 1, 0, 0, 0), (.getfield 18, 3, 0, 2, 2), (.aload_n 1, 1, 0, 0, 0), (.iload 4, 2, 0, 0, 0), (.iconst 0, 1, 0, 0, 0), (.invokevirtual 50, 3, 2, 702, 3), (.iaload, 1, 3, 0, 0), (.iload 5, 2, 0, 0, 0), (.iadd, 1, 0, 0, 0), (.invokevirtual 90, 3, 5, 7, 4)]
def b_X2_letBoard_133 : List wAn := [(.aload_n 0, 1, 0, 0, 0), (.aload_n 0, 1, 0, 0, 0), (.getfield 30, 3, 0, 2, 6), (.aload_n 0, 1, 0, 0, 0), (.getfield 21, 3, 0, 2, 3), (.iload 4, 2, 0, 0, 0), (.iaload, 1, 4, 0, 0), (.invokestatic 79, 3, 6, 1, 2), (.putfield 30, 3, 0, 2, 6), (.iinc 4 1, 3, 0, 0, 0), (.goto (-144), 3, 10, 0, 0)]
def b_X2_letBoard_157 : List wAn := [(.return_, 1, 0, 0, 0)]
def q_X2_letBoard : List (Nat × List wAn) := [(0, b_X2_letBoard_0), (10, b_X2_letBoard_10), (55, b_X2_letBoard_55), (56, b_X2_letBoard_56), (84, b_X2_letBoard_84), (87, b_X2_letBoard_87), (133, b_X2_letBoard_133), (157, b_X2_letBoard_157)]
abbrev ck_X2_letBoard : List wAn → Nat → Bool := w_ckB o_X2_letBoard RX2 vwCl 8 cX2_letBoard ct_X2_letBoard
theorem cq_X2_letBoard : q_X2_letBoard.all (fun q => ck_X2_letBoard q.2 q.1) = true := by decide +kernel
def o_X2_expect : List Cond := [.fieldLink RX2 24 RX2 "comers" "[I", .fieldLink RX2 27 RX2 "comersFares" "[I"] ++ wsX20
theorem oi_X2_expect : ∀ w ∈ o_X2_expect, w ∈ wGT := wGT_of _ [98, 99, 101, 103, 105, 107, 109, 111, 113] (by decide +kernel) (by decide +kernel)
def ct_X2_expect : List (Instr × Nat) := []
abbrev rm_X2_expect : Room := { frames := 0, cells := 0, slots := 0, locals := 0 }
def b_X2_expect_0 : List wAn := [(.iload_n 2, 1, 0, 0, 0), (.bipush 100, 2, 0, 0, 0), (.irem, 1, 0, 0, 0), (.istore 4, 2, 0, 0, 0), (.iload 4, 2, 0, 0, 0), (.bipush 8, 2, 0, 0, 0), (.imul, 1, 0, 0, 0), (.iload_n 1, 1, 0, 0, 0), (.iadd, 1, 0, 0, 0), (.istore 5, 2, 0, 0, 0), (.aload_n 0, 1, 0, 0, 0), (.getfield 24, 3, 0, 2, 4), (.iload 4, 2, 0, 0, 0), (.iaload, 1, 5, 0, 0), (.iconst 1, 1, 0, 0, 0), (.iload_n 1, 1, 0, 0, 0), (.ishl, 1, 0, 0, 0), (.iand, 1, 0, 0, 0), (.ifCond .eq 14, 3, 40, 0, 0), (.iload_n 3, 1, 0, 0, 0), (.aload_n 0, 1, 0, 0, 0), (.getfield 27, 3, 0, 2, 5), (.iload 5, 2, 0, 0, 0), (.iaload, 1, 6, 0, 0), (.if_icmp .ge 24, 3, 61, 0, 0)]
def b_X2_expect_40 : List wAn := [(.aload_n 0, 1, 0, 0, 0), (.getfield 24, 3, 0, 2, 4), (.iload 4, 2, 0, 0, 0), (.dup2, 1, 0, 0, 0), (.iaload, 1, 5, 0, 0), (.iconst 1, 1, 0, 0, 0), (.iload_n 1, 1, 0, 0, 0), (.ishl, 1, 0, 0, 0), (.ior, 1, 0, 0, 0), (.iastore, 1, 5, 0, 0), (.aload_n 0, 1, 0, 0, 0), (.getfield 27, 3, 0, 2, 5), (.iload 5, 2, 0, 0, 0), (.iload_n 3, 1, 0, 0, 0), (.iastore, 1, 6, 0, 0)]
def b_X2_expect_61 : List wAn := [(.return_, 1, 0, 0, 0)]
def q_X2_expect : List (Nat × List wAn) := [(0, b_X2_expect_0), (40, b_X2_expect_40), (61, b_X2_expect_61)]
abbrev ck_X2_expect : List wAn → Nat → Bool := w_ckB o_X2_expect RX2 vwCl 6 cX2_expect ct_X2_expect
theorem cq_X2_expect : q_X2_expect.all (fun q => ck_X2_expect q.2 q.1) = true := by decide +kernel
def o_X2_orNever : List Cond := []
theorem oi_X2_orNever : ∀ w ∈ o_X2_orNever, w ∈ wGT := wGT_of _ [] (by decide +kernel) (by decide +kernel)
def ct_X2_orNever : List (Instr × Nat) := []
abbrev rm_X2_orNever : Room := { frames := 0, cells := 0, slots := 0, locals := 0 }
def b_X2_orNever_0 : List wAn := [(.iload_n 0, 1, 0, 0, 0), (.iconst (-1), 1, 0, 0, 0), (.if_icmp .ne 9, 3, 11, 0, 0), (.sipush 1540, 3, 0, 0, 0), (.goto 4, 3, 12, 0, 0)]
def b_X2_orNever_11 : List wAn := [(.iload_n 0, 1, 0, 0, 0)]
def b_X2_orNever_12 : List wAn := [(.ireturn, 1, 0, 0, 0)]
def q_X2_orNever : List (Nat × List wAn) := [(0, b_X2_orNever_0), (11, b_X2_orNever_11), (12, b_X2_orNever_12)]
abbrev ck_X2_orNever : List wAn → Nat → Bool := w_ckB o_X2_orNever RX2 vwCl 1 cX2_orNever ct_X2_orNever
theorem cq_X2_orNever : q_X2_orNever.all (fun q => ck_X2_orNever q.2 q.1) = true := by decide +kernel
def o_Jxe99ae_doubleToLongBits_ccdee : List Cond := [.constantLong RJxe99ae 137 (Int64.ofNat 9221120237041090560), .methodLink RJxe99ae 122 yJxe99ae_isNaN_b9ae7, .static yJxe99ae_isNaN_b9ae7, .initialized RJxe99ae, .code yJxe99ae_isNaN_b9ae7 cJxe99ae_isNaN_b9ae7 2 (some .boolean)]
theorem oi_Jxe99ae_doubleToLongBits_ccdee : ∀ w ∈ o_Jxe99ae_doubleToLongBits_ccdee, w ∈ wGT := wGT_of _ [1020, 1014, 1015, 68, 1016] (by decide +kernel) (by decide +kernel)
def ct_Jxe99ae_doubleToLongBits_ccdee : List (Instr × Nat) := [(.invokestatic 122, 1), (.invokestatic 134, 1)]
abbrev rm_Jxe99ae_doubleToLongBits_ccdee : Room := { frames := 1, cells := 0, slots := 0, locals := 60 }
def b_Jxe99ae_doubleToLongBits_ccdee_0 : List wAn := [(.dload_n 0, 1, 0, 0, 0), (.invokestatic 122, 3, 0, 1, 1), (.ifCond .ne 8, 3, 12, 0, 0), (.dload_n 0, 1, 0, 0, 0), (.invokestatic 134, 3, 1, 1, 1), (.lreturn, 1, 0, 0, 0)]
def b_Jxe99ae_doubleToLongBits_ccdee_12 : List wAn := [(.ldc2_w 137, 3, 9221120237041090560, 0, 0), (.lreturn, 1, 0, 0, 0)]
def q_Jxe99ae_doubleToLongBits_ccdee : List (Nat × List wAn) := [(0, b_Jxe99ae_doubleToLongBits_ccdee_0), (12, b_Jxe99ae_doubleToLongBits_ccdee_12)]
abbrev ck_Jxe99ae_doubleToLongBits_ccdee : List wAn → Nat → Bool := w_ckB o_Jxe99ae_doubleToLongBits_ccdee RJxe99ae vwCl 2 cJxe99ae_doubleToLongBits_ccdee ct_Jxe99ae_doubleToLongBits_ccdee
theorem cq_Jxe99ae_doubleToLongBits_ccdee : q_Jxe99ae_doubleToLongBits_ccdee.all (fun q => ck_Jxe99ae_doubleToLongBits_ccdee q.2 q.1) = true := by decide +kernel
def o_Jxe99ae_isNaN_b9ae7 : List Cond := []
theorem oi_Jxe99ae_isNaN_b9ae7 : ∀ w ∈ o_Jxe99ae_isNaN_b9ae7, w ∈ wGT := wGT_of _ [] (by decide +kernel) (by decide +kernel)
def ct_Jxe99ae_isNaN_b9ae7 : List (Instr × Nat) := []
abbrev rm_Jxe99ae_isNaN_b9ae7 : Room := { frames := 0, cells := 0, slots := 0, locals := 0 }
def b_Jxe99ae_isNaN_b9ae7_0 : List wAn := [(.dload_n 0, 1, 0, 0, 0), (.dload_n 0, 1, 0, 0, 0), (.dcmp .l, 1, 0, 0, 0), (.ifCond .eq 7, 3, 10, 0, 0), (.iconst 1, 1, 0, 0, 0), (.goto 4, 3, 11, 0, 0)]
def b_Jxe99ae_isNaN_b9ae7_10 : List wAn := [(.iconst 0, 1, 0, 0, 0)]
def b_Jxe99ae_isNaN_b9ae7_11 : List wAn := [(.ireturn, 1, 0, 0, 0)]
def q_Jxe99ae_isNaN_b9ae7 : List (Nat × List wAn) := [(0, b_Jxe99ae_isNaN_b9ae7_0), (10, b_Jxe99ae_isNaN_b9ae7_10), (11, b_Jxe99ae_isNaN_b9ae7_11)]
abbrev ck_Jxe99ae_isNaN_b9ae7 : List wAn → Nat → Bool := w_ckB o_Jxe99ae_isNaN_b9ae7 RJxe99ae vwCl 2 cJxe99ae_isNaN_b9ae7 ct_Jxe99ae_isNaN_b9ae7
theorem cq_Jxe99ae_isNaN_b9ae7 : q_Jxe99ae_isNaN_b9ae7.all (fun q => ck_Jxe99ae_isNaN_b9ae7 q.2 q.1) = true := by decide +kernel
def o_J9_min_7cf53 : List Cond := []
theorem oi_J9_min_7cf53 : ∀ w ∈ o_J9_min_7cf53, w ∈ wGT := wGT_of _ [] (by decide +kernel) (by decide +kernel)
def ct_J9_min_7cf53 : List (Instr × Nat) := []
abbrev rm_J9_min_7cf53 : Room := { frames := 0, cells := 0, slots := 0, locals := 0 }
def b_J9_min_7cf53_0 : List wAn := [(.iload_n 0, 1, 0, 0, 0), (.iload_n 1, 1, 0, 0, 0), (.if_icmp .gt 7, 3, 9, 0, 0), (.iload_n 0, 1, 0, 0, 0), (.goto 4, 3, 10, 0, 0)]
def b_J9_min_7cf53_9 : List wAn := [(.iload_n 1, 1, 0, 0, 0)]
def b_J9_min_7cf53_10 : List wAn := [(.ireturn, 1, 0, 0, 0)]
def q_J9_min_7cf53 : List (Nat × List wAn) := [(0, b_J9_min_7cf53_0), (9, b_J9_min_7cf53_9), (10, b_J9_min_7cf53_10)]
abbrev ck_J9_min_7cf53 : List wAn → Nat → Bool := w_ckB o_J9_min_7cf53 RJ9 vwCl 2 cJ9_min_7cf53 ct_J9_min_7cf53
theorem cq_J9_min_7cf53 : q_J9_min_7cf53.all (fun q => ck_J9_min_7cf53 q.2 q.1) = true := by decide +kernel
def o_J7_fill_53178 : List Cond := []
theorem oi_J7_fill_53178 : ∀ w ∈ o_J7_fill_53178, w ∈ wGT := wGT_of _ [] (by decide +kernel) (by decide +kernel)
def ct_J7_fill_53178 : List (Instr × Nat) := []
abbrev rm_J7_fill_53178 : Room := { frames := 0, cells := 0, slots := 0, locals := 0 }
def b_J7_fill_53178_0 : List wAn := [(.iconst 0, 1, 0, 0, 0), (.istore_n 2, 1, 0, 0, 0), (.aload_n 0, 1, 0, 0, 0), (.arraylength, 1, 0, 0, 0), (.istore_n 3, 1, 0, 0, 0)]
def b_J7_fill_53178_5 : List wAn := [(.iload_n 2, 1, 0, 0, 0), (.iload_n 3, 1, 0, 0, 0), (.if_icmp .ge 13, 3, 20, 0, 0), (.aload_n 0, 1, 0, 0, 0), (.iload_n 2, 1, 0, 0, 0), (.iload_n 1, 1, 0, 0, 0), (.iastore, 1, 0, 0, 0), (.iinc 2 1, 3, 0, 0, 0), (.goto (-12), 3, 5, 0, 0)]
def b_J7_fill_53178_20 : List wAn := [(.return_, 1, 0, 0, 0)]
def q_J7_fill_53178 : List (Nat × List wAn) := [(0, b_J7_fill_53178_0), (5, b_J7_fill_53178_5), (20, b_J7_fill_53178_20)]
abbrev ck_J7_fill_53178 : List wAn → Nat → Bool := w_ckB o_J7_fill_53178 RJ7 vwCl 4 cJ7_fill_53178 ct_J7_fill_53178
theorem cq_J7_fill_53178 : q_J7_fill_53178.all (fun q => ck_J7_fill_53178 q.2 q.1) = true := by decide +kernel
end WGEN
