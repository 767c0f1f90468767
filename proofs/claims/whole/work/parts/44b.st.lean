section LWI
variable {p : Program} {l : Launch} {e : Env} {s : State} {m : MethodId} {args : Array Value} {below : List Frame} {meth : Method} {c : Code} {Qf : State → Prop} {A : Nat → Prop} {nL : Nat} {g : gW}
theorem d_law_40 : decode code 40 = .ok (.tableswitch 1711 0 25 #[120, 238, 294, 362, 430, 498, 590, 658, 726, 782, 795, 808, 852, 896, 964, 1032, 1100, 1168, 1224, 1280, 1348, 1428, 1520, 1576, 1656, 1697], 120) := by decide +kernel
theorem lTs_of (X : wCtx l g.1 vwCl (gTy g) (gCst g) (gStf g) (gSts g) p s m args c A code nL RL) : lTs (fun k n => wG p l e room_1 s m args below meth c Qf k n g.1 vwCl A nL) := by
  obtain ⟨⟨hx, hb, -⟩, -⟩ := X
  intro k n y lo w h1 h2 H locs ls hl hP hD hS
  by_cases hy : 0 ≤ y.toInt ∧ y.toInt ≤ 25
  · rcases (show y.toInt = 0 ∨ y.toInt = 1 ∨ y.toInt = 2 ∨ y.toInt = 3 ∨ y.toInt = 4 ∨ y.toInt = 5 ∨ y.toInt = 6 ∨ y.toInt = 7 ∨ y.toInt = 8 ∨ y.toInt = 9 ∨ y.toInt = 10 ∨ y.toInt = 11 ∨ y.toInt = 12 ∨ y.toInt = 13 ∨ y.toInt = 14 ∨ y.toInt = 15 ∨ y.toInt = 16 ∨ y.toInt = 17 ∨ y.toInt = 18 ∨ y.toInt = 19 ∨ y.toInt = 20 ∨ y.toInt = 21 ∨ y.toInt = 22 ∨ y.toInt = 23 ∨ y.toInt = 24 ∨ y.toInt = 25 by omega) with q | q | q | q | q | q | q | q | q | q | q | q | q | q | q | q | q | q | q | q | q | q | q | q | q | q
    · exact lv_tableIn (tgt := 160) (off := 120) hx hb d_law_40 (by omega) (by omega) (by rw [q]; rfl) (by decide) (h1 0 160 rfl H locs ls hl hP hD hS)
    · exact lv_tableIn (tgt := 278) (off := 238) hx hb d_law_40 (by omega) (by omega) (by rw [q]; rfl) (by decide) (h1 1 278 rfl H locs ls hl hP hD hS)
    · exact lv_tableIn (tgt := 334) (off := 294) hx hb d_law_40 (by omega) (by omega) (by rw [q]; rfl) (by decide) (h1 2 334 rfl H locs ls hl hP hD hS)
    · exact lv_tableIn (tgt := 402) (off := 362) hx hb d_law_40 (by omega) (by omega) (by rw [q]; rfl) (by decide) (h1 3 402 rfl H locs ls hl hP hD hS)
    · exact lv_tableIn (tgt := 470) (off := 430) hx hb d_law_40 (by omega) (by omega) (by rw [q]; rfl) (by decide) (h1 4 470 rfl H locs ls hl hP hD hS)
    · exact lv_tableIn (tgt := 538) (off := 498) hx hb d_law_40 (by omega) (by omega) (by rw [q]; rfl) (by decide) (h1 5 538 rfl H locs ls hl hP hD hS)
    · exact lv_tableIn (tgt := 630) (off := 590) hx hb d_law_40 (by omega) (by omega) (by rw [q]; rfl) (by decide) (h1 6 630 rfl H locs ls hl hP hD hS)
    · exact lv_tableIn (tgt := 698) (off := 658) hx hb d_law_40 (by omega) (by omega) (by rw [q]; rfl) (by decide) (h1 7 698 rfl H locs ls hl hP hD hS)
    · exact lv_tableIn (tgt := 766) (off := 726) hx hb d_law_40 (by omega) (by omega) (by rw [q]; rfl) (by decide) (h1 8 766 rfl H locs ls hl hP hD hS)
    · exact lv_tableIn (tgt := 822) (off := 782) hx hb d_law_40 (by omega) (by omega) (by rw [q]; rfl) (by decide) (h1 9 822 rfl H locs ls hl hP hD hS)
    · exact lv_tableIn (tgt := 835) (off := 795) hx hb d_law_40 (by omega) (by omega) (by rw [q]; rfl) (by decide) (h1 10 835 rfl H locs ls hl hP hD hS)
    · exact lv_tableIn (tgt := 848) (off := 808) hx hb d_law_40 (by omega) (by omega) (by rw [q]; rfl) (by decide) (h1 11 848 rfl H locs ls hl hP hD hS)
    · exact lv_tableIn (tgt := 892) (off := 852) hx hb d_law_40 (by omega) (by omega) (by rw [q]; rfl) (by decide) (h1 12 892 rfl H locs ls hl hP hD hS)
    · exact lv_tableIn (tgt := 936) (off := 896) hx hb d_law_40 (by omega) (by omega) (by rw [q]; rfl) (by decide) (h1 13 936 rfl H locs ls hl hP hD hS)
    · exact lv_tableIn (tgt := 1004) (off := 964) hx hb d_law_40 (by omega) (by omega) (by rw [q]; rfl) (by decide) (h1 14 1004 rfl H locs ls hl hP hD hS)
    · exact lv_tableIn (tgt := 1072) (off := 1032) hx hb d_law_40 (by omega) (by omega) (by rw [q]; rfl) (by decide) (h1 15 1072 rfl H locs ls hl hP hD hS)
    · exact lv_tableIn (tgt := 1140) (off := 1100) hx hb d_law_40 (by omega) (by omega) (by rw [q]; rfl) (by decide) (h1 16 1140 rfl H locs ls hl hP hD hS)
    · exact lv_tableIn (tgt := 1208) (off := 1168) hx hb d_law_40 (by omega) (by omega) (by rw [q]; rfl) (by decide) (h1 17 1208 rfl H locs ls hl hP hD hS)
    · exact lv_tableIn (tgt := 1264) (off := 1224) hx hb d_law_40 (by omega) (by omega) (by rw [q]; rfl) (by decide) (h1 18 1264 rfl H locs ls hl hP hD hS)
    · exact lv_tableIn (tgt := 1320) (off := 1280) hx hb d_law_40 (by omega) (by omega) (by rw [q]; rfl) (by decide) (h1 19 1320 rfl H locs ls hl hP hD hS)
    · exact lv_tableIn (tgt := 1388) (off := 1348) hx hb d_law_40 (by omega) (by omega) (by rw [q]; rfl) (by decide) (h1 20 1388 rfl H locs ls hl hP hD hS)
    · exact lv_tableIn (tgt := 1468) (off := 1428) hx hb d_law_40 (by omega) (by omega) (by rw [q]; rfl) (by decide) (h1 21 1468 rfl H locs ls hl hP hD hS)
    · exact lv_tableIn (tgt := 1560) (off := 1520) hx hb d_law_40 (by omega) (by omega) (by rw [q]; rfl) (by decide) (h1 22 1560 rfl H locs ls hl hP hD hS)
    · exact lv_tableIn (tgt := 1616) (off := 1576) hx hb d_law_40 (by omega) (by omega) (by rw [q]; rfl) (by decide) (h1 23 1616 rfl H locs ls hl hP hD hS)
    · exact lv_tableIn (tgt := 1696) (off := 1656) hx hb d_law_40 (by omega) (by omega) (by rw [q]; rfl) (by decide) (h1 24 1696 rfl H locs ls hl hP hD hS)
    · exact lv_tableIn (tgt := 1737) (off := 1697) hx hb d_law_40 (by omega) (by omega) (by rw [q]; rfl) (by decide) (h1 25 1737 rfl H locs ls hl hP hD hS)
  · exact lv_tableOut (tgt := 1751) hx hb d_law_40 (by omega) (by decide) (h2 H locs ls hl hP hD hS)
theorem lRet_of (hret : ∀ (pc : Nat) (H : Heap) (ls : Array Slot), decode code pc = .ok (.ireturn, 1) → W p l e room_1 s m args below meth c H [] 1049 23862 Qf (F0 m pc ls [.int 1])) (hA : ∀ q, A q → s.heap.size ≤ q) {k n : Nat} (hk : k ≤ 1049) (hn : n ≤ 23862) {D : va_G} {cl : List vw_C} :
    wRet code (wG p l e room_1 s m args below meth c Qf k n D cl A nL) (some .boolean) (fun v _ => v = some (.int 1)) := by
  intro pc i v lo w hd hv hq H locs ls hl hP hD hS
  subst hq
  unfold w_rv at hv
  split at hv
  · rename_i x he
    cases he
    exact W.widen hk hn (va_forget (fun q hq => hA _ (hS.2.2 q hq)) (hret pc H ls hd))
  · rename_i he; cases he
  · rename_i he; cases he
  · rename_i he; cases he
  · exact hv.elim
theorem lOK_of (hl : l.stackTraces = false) (X : wCtx l g.1 vwCl (gTy g) (gCst g) (gStf g) (gSts g) p s m args c A code nL RL) (hret : ∀ (pc : Nat) (H : Heap) (ls : Array Slot), decode code pc = .ok (.ireturn, 1) → W p l e room_1 s m args below meth c H [] 1049 23862 Qf (F0 m pc ls [.int 1])) (hA : ∀ q, A q → s.heap.size ≤ q) (h9 : nL = 9) : lOK g (fun k n => wG p l e room_1 s m args below meth c Qf k n g.1 vwCl A nL) := by
  subst h9
  intro k n hk hn
  exact wB_sound (ct := ct_law) X.1.1 X.1.2.1 X.1.2.2.2.1 (fun w h => by cases h) X.2.1 X.2.2.1 w_tyok_vw (lRet_of hret hA hk hn) (calls_law hl X hk hn)
theorem lAll_of (hl : l.stackTraces = false) (X : wCtx l g.1 vwCl (gTy g) (gCst g) (gStf g) (gSts g) p s m args c A code nL RL) (hnc : wNc s) : lAll g (fun k n => wG p l e room_1 s m args below meth c Qf k n g.1 vwCl A nL) := ⟨wr_ferry hl X hnc, wr_drop hl X hnc, wr_kind hl X hnc, wr_clock hl X hnc, wr_set hl X hnc, wr_place hl X hnc, wr_rest hl X hnc, wr_take hl X hnc, wr_append hl X hnc, wr_ferries hl X hnc, wr_undo hl X hnc, wr_ferryOf hl X hnc, wr_traveller hl X hnc, wr_leaves hl X hnc, wr_costs hl X hnc, wr_count hl X hnc, wr_setting hl X hnc, wr_refusal hl X hnc, wr_soonest hl X hnc, wr_cheapest hl X hnc, wr_reach hl X hnc, wr_lastStart hl X hnc⟩
theorem wG_sub {R : Room} {k n pc : Nat} {D : va_G} {cl : List vw_C} {lo : wLo} {st : List Value} {w w' : va_W} (is : List Nat) (hn : va_nd is = true) (h1 : is.filterMap (fun i => w[i]?) = w') (h2 : is.map (fun i => w[i]?) = w'.map some) (hk : wG p l e R s m args below meth c Qf k n D cl A nL pc lo st w') : wG p l e R s m args below meth c Qf k n D cl A nL pc lo st w :=
  fun H locs ls hl hP hD hS => hk H locs ls hl (hP.sub is h1) (hD.sub is hn h2) hS
end LWI
