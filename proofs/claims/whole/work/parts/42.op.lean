section OPS
/-! the two sides, and what an operation does to both -/
def INV (N V : Nat → Int) (T : tFT) (W : tWY) (sc os : Int) (M P C : Nat → Int) (ln : Int) : Prop := RG N M ∧ okV sc os ∧ SV V os P sc ∧ T.2.2.1 = ln ∧ okFr T ∧ T.1 = C ∧ okC C ln ∧ okWs W
def opD (L : List String) (g : gW) (spC spM : wSp) (avC avM : List Value) (wC wM : va_W) : Prop := ∃ (k : Nat) (r : Int32) (N V : Nat → Int) (T : tFT) (W : tWY) (sc os : Int) (M P C : Nat → Int) (ln : Int) (R : Nat → Int) (pt ta : Int) (B Z : Nat → Int), INV N V T W sc os M P C ln ∧ k ≤ L.length ∧
  (∀ (K : wK) (KX : wX), (k = 0 → K (some (.int r)) (wTF g N V T W sc os)) → (∀ E, k ≠ 0 → L[k - 1]? = some E → KX E (wTF g N V T W sc os)) → spC avC wC K KX) ∧
  ∀ (K : wK) (KX : wX), K (some (.int r)) (wMO g M P sc (k : Int) C ln R pt ta B Z) → spM avM wM K KX
section
variable {L : List String} {g : gW} {spC spM : wSp} {avC avM : List Value} {wC wM : va_W} {N V : Nat → Int} {T : tFT} {W : tWY} {sc os : Int} {M P C : Nat → Int} {ln : Int} {R : Nat → Int} {pt ta : Int} {B Z : Nat → Int} {r : Int32}
theorem opD.ok (hI : INV N V T W sc os M P C ln) (hc : ∀ (K : wK) (KX : wX), K (some (.int r)) (wTF g N V T W sc os) → spC avC wC K KX) (hm : ∀ (K : wK) (KX : wX), K (some (.int r)) (wMO g M P sc 0 C ln R pt ta B Z) → spM avM wM K KX) : opD L g spC spM avC avM wC wM :=
  ⟨0, r, N, V, T, W, sc, os, M, P, C, ln, R, pt, ta, B, Z, hI, Nat.zero_le _, fun K KX h _ => hc K KX (h rfl), hm⟩
theorem opD.no (k : Nat) (E : String) (hE : L[k]? = some E) (hI : INV N V T W sc os M P C ln) (hc : ∀ (K : wK) (KX : wX), KX E (wTF g N V T W sc os) → spC avC wC K KX) (hm : ∀ (K : wK) (KX : wX), K (some (.int r)) (wMO g M P sc ((k : Int) + 1) C ln R pt ta B Z) → spM avM wM K KX) : opD L g spC spM avC avM wC wM :=
  ⟨k + 1, r, N, V, T, W, sc, os, M, P, C, ln, R, pt, ta, B, Z, hI, (List.getElem?_eq_some_iff.mp hE).1, fun K KX _ h => hc K KX (h E (by omega) hE), hm⟩
theorem cIfT {p a b : Prop} (h : p) (k : b) : cIf p a b := ⟨fun q => absurd h q, fun _ => k⟩
theorem cIfF {p a b : Prop} (h : ¬ p) (k : a) : cIf p a b := ⟨fun _ => k, fun q => absurd q h⟩
/-- a change -/
theorem INV.chg (h : INV N V T W sc os M P C ln) {N' M' : Nat → Int} (hr : RG N' M') : INV N' (svV N V sc os) T W (svS sc + 1) (svO sc os) M' (msP M P sc) C ln := by
  obtain ⟨h1, h2, h3, h4⟩ := h
  obtain ⟨k1, k2⟩ := SV_save h1 h2 h3
  exact ⟨hr, k2, k1, h4⟩
theorem INV.ways (h : INV N V T W sc os M P C ln) {W' : tWY} (hw : okWs W') : INV N V T W' sc os M P C ln := ⟨h.1, h.2.1, h.2.2.1, h.2.2.2.1, h.2.2.2.2.1, h.2.2.2.2.2.1, h.2.2.2.2.2.2.1, hw⟩
end
theorem kMOS_at {j : Int} (h : 0 ≤ j ∧ j < 2) : kMOS j.toNat = if j = 0 then 719 else 60 := by
  rcases (show j = 0 ∨ j = 1 by omega) with rfl | rfl <;> rfl
theorem RG_setting {N M : Nat → Int} (h : RG N M) {j : Int} (hj : 0 ≤ j ∧ j < 2) : N (1 + j).toNat = M j.toNat := by
  rcases (show j = 0 ∨ j = 1 by omega) with rfl | rfl
  · exact h.1.2.1
  · exact h.1.2.2.1
theorem op_drop {g : gW} {N V : Nat → Int} {T : tFT} {W : tWY} {sc os : Int} {M P C : Nat → Int} {ln : Int} {R : Nat → Int} {pt ta th : Int} {B Z : Nat → Int} (h : INV N V T W sc os M P C ln) {f : Int} (hf : r32 f) : opD [xI] g (sp_X3_drop g) (sp_X4_drop g) [.ref (gA g 20), .int (ii f)] [.ref (gA g 34), .int (ii f)] (wTF g N V T W sc os) (wMO g M P sc th C ln R pt ta B Z) := by
  have e0 := h.1.1.1
  have gw := h.1.2.1.1
  have gv := h.2.1
  by_cases c0 : 0 ≤ f ∧ f < N 0
  case neg =>
    exact opD.no (r := ii 0) (R := R) (pt := pt) (ta := ta) (B := B) (Z := Z) 0 xI rfl h (fun K KX k => ⟨(f, N, V, T, W, sc, os), rfl, rfl, hf, gv, gw, cIfF c0 k⟩) (fun K KX k => ⟨(f, M, P, sc, th, C, ln, R, pt, ta, B, Z), rfl, rfl, hf, (by omega : 0 ≤ M 2 ∧ M 2 ≤ 14), (by omega : 0 ≤ sc ∧ sc ≤ 6), cIfF (by omega) k⟩)
  exact opD.ok (r := ii (forgetN N f 0)) (R := R) (pt := pt) (ta := ta) (B := B) (Z := Z) (h.chg (RG_forget h.1 c0)) (fun K KX k => ⟨(f, N, V, T, W, sc, os), rfl, rfl, hf, gv, gw, cIfT c0 (k)⟩) (fun K KX k => ⟨(f, M, P, sc, th, C, ln, R, pt, ta, B, Z), rfl, rfl, hf, (by omega : 0 ≤ M 2 ∧ M 2 ≤ 14), (by omega : 0 ≤ sc ∧ sc ≤ 6), cIfT (by omega) ((by have e := (RG_forget h.1 c0).1.1; rw [e] at k; exact k))⟩)
theorem op_kind {g : gW} {N V : Nat → Int} {T : tFT} {W : tWY} {sc os : Int} {M P C : Nat → Int} {ln : Int} {R : Nat → Int} {pt ta th : Int} {B Z : Nat → Int} (h : INV N V T W sc os M P C ln) {f v : Int} (hf : r32 f) (hv : r32 v) : opD [xI, xA] g (sp_X3_kind g) (sp_X4_kind g) [.ref (gA g 20), .int (ii f), .int (ii v)] [.ref (gA g 34), .int (ii f), .int (ii v)] (wTF g N V T W sc os) (wMO g M P sc th C ln R pt ta B Z) := by
  have e0 := h.1.1.1
  have gw := h.1.2.1.1
  have gv := h.2.1
  by_cases c0 : 0 ≤ f ∧ f < N 0
  case neg =>
    exact opD.no (r := ii 0) (R := R) (pt := pt) (ta := ta) (B := B) (Z := Z) 0 xI rfl h (fun K KX k => ⟨(f, v, N, V, T, W, sc, os), rfl, rfl, hf, hv, gv, gw, cIfF c0 k⟩) (fun K KX k => ⟨(f, v, M, P, sc, th, C, ln, R, pt, ta, B, Z), rfl, rfl, hf, hv, (by omega : 0 ≤ M 2 ∧ M 2 ≤ 14), (by omega : 0 ≤ sc ∧ sc ≤ 6), cIfF (by omega) k⟩)
  by_cases c1 : 0 ≤ v ∧ v ≤ 2
  case neg =>
    exact opD.no (r := ii 0) (R := R) (pt := pt) (ta := ta) (B := B) (Z := Z) 1 xA rfl h (fun K KX k => ⟨(f, v, N, V, T, W, sc, os), rfl, rfl, hf, hv, gv, gw, cIfT c0 (cIfF c1 k)⟩) (fun K KX k => ⟨(f, v, M, P, sc, th, C, ln, R, pt, ta, B, Z), rfl, rfl, hf, hv, (by omega : 0 ≤ M 2 ∧ M 2 ≤ 14), (by omega : 0 ≤ sc ∧ sc ≤ 6), cIfT (by omega) (cIfF (by omega) k)⟩)
  exact opD.ok (r := ii (N (23 + f * 9 + 6).toNat)) (R := R) (pt := pt) (ta := ta) (B := B) (Z := Z) (h.chg (RG_suF h.1 c0 (k := 6) (v := v) (by omega) (by omega))) (fun K KX k => ⟨(f, v, N, V, T, W, sc, os), rfl, rfl, hf, hv, gv, gw, cIfT c0 (cIfT c1 (k))⟩) (fun K KX k => ⟨(f, v, M, P, sc, th, C, ln, R, pt, ta, B, Z), rfl, rfl, hf, hv, (by omega : 0 ≤ M 2 ∧ M 2 ≤ 14), (by omega : 0 ≤ sc ∧ sc ≤ 6), cIfT (by omega) (cIfT (by omega) ((by rw [h.1.1.2.2.2.2 f 6 c0.1 c0.2 (by omega) (by omega)] at k; exact k)))⟩)
theorem op_clock {g : gW} {N V : Nat → Int} {T : tFT} {W : tWY} {sc os : Int} {M P C : Nat → Int} {ln : Int} {R : Nat → Int} {pt ta th : Int} {B Z : Nat → Int} (h : INV N V T W sc os M P C ln) {f v : Int} (hf : r32 f) (hv : r32 v) : opD [xI, xA] g (sp_X3_clock g) (sp_X4_clock g) [.ref (gA g 20), .int (ii f), .int (ii v)] [.ref (gA g 34), .int (ii f), .int (ii v)] (wTF g N V T W sc os) (wMO g M P sc th C ln R pt ta B Z) := by
  have e0 := h.1.1.1
  have gw := h.1.2.1.1
  have gv := h.2.1
  by_cases c0 : 0 ≤ f ∧ f < N 0
  case neg =>
    exact opD.no (r := ii 0) (R := R) (pt := pt) (ta := ta) (B := B) (Z := Z) 0 xI rfl h (fun K KX k => ⟨(f, v, N, V, T, W, sc, os), rfl, rfl, hf, hv, gv, gw, cIfF c0 k⟩) (fun K KX k => ⟨(f, v, M, P, sc, th, C, ln, R, pt, ta, B, Z), rfl, rfl, hf, hv, (by omega : 0 ≤ M 2 ∧ M 2 ≤ 14), (by omega : 0 ≤ sc ∧ sc ≤ 6), cIfF (by omega) k⟩)
  by_cases c1 : 0 ≤ v ∧ v ≤ 59
  case neg =>
    exact opD.no (r := ii 0) (R := R) (pt := pt) (ta := ta) (B := B) (Z := Z) 1 xA rfl h (fun K KX k => ⟨(f, v, N, V, T, W, sc, os), rfl, rfl, hf, hv, gv, gw, cIfT c0 (cIfF c1 k)⟩) (fun K KX k => ⟨(f, v, M, P, sc, th, C, ln, R, pt, ta, B, Z), rfl, rfl, hf, hv, (by omega : 0 ≤ M 2 ∧ M 2 ≤ 14), (by omega : 0 ≤ sc ∧ sc ≤ 6), cIfT (by omega) (cIfF (by omega) k)⟩)
  exact opD.ok (r := ii (N (23 + f * 9 + 7).toNat)) (R := R) (pt := pt) (ta := ta) (B := B) (Z := Z) (h.chg (RG_suF h.1 c0 (k := 7) (v := v) (by omega) (by omega))) (fun K KX k => ⟨(f, v, N, V, T, W, sc, os), rfl, rfl, hf, hv, gv, gw, cIfT c0 (cIfT c1 (k))⟩) (fun K KX k => ⟨(f, v, M, P, sc, th, C, ln, R, pt, ta, B, Z), rfl, rfl, hf, hv, (by omega : 0 ≤ M 2 ∧ M 2 ≤ 14), (by omega : 0 ≤ sc ∧ sc ≤ 6), cIfT (by omega) (cIfT (by omega) ((by rw [h.1.1.2.2.2.2 f 7 c0.1 c0.2 (by omega) (by omega)] at k; exact k)))⟩)
theorem op_set {g : gW} {N V : Nat → Int} {T : tFT} {W : tWY} {sc os : Int} {M P C : Nat → Int} {ln : Int} {R : Nat → Int} {pt ta th : Int} {B Z : Nat → Int} (h : INV N V T W sc os M P C ln) {j v : Int} (hj : r32 j) (hv : r32 v) : opD [xI, xA] g (sp_X3_set g) (sp_X4_set g) [.ref (gA g 20), .int (ii j), .int (ii v)] [.ref (gA g 34), .int (ii j), .int (ii v)] (wTF g N V T W sc os) (wMO g M P sc th C ln R pt ta B Z) := by
  have e0 := h.1.1.1
  have gw := h.1.2.1.1
  have gv := h.2.1
  by_cases c0 : 0 ≤ j ∧ j < 2
  case neg =>
    exact opD.no (r := ii 0) (R := R) (pt := pt) (ta := ta) (B := B) (Z := Z) 0 xI rfl h (fun K KX k => ⟨(j, v, N, V, T, W, sc, os), rfl, rfl, hj, hv, gv, cIfF c0 k⟩) (fun K KX k => ⟨(j, v, M, P, sc, th, C, ln, R, pt, ta, B, Z), rfl, rfl, hj, hv, (by omega : 0 ≤ sc ∧ sc ≤ 6), cIfF (by omega) k⟩)
  have hq := kMOS_at c0
  by_cases c1 : 0 ≤ v ∧ v ≤ kMOS j.toNat
  case neg =>
    exact opD.no (r := ii 0) (R := R) (pt := pt) (ta := ta) (B := B) (Z := Z) 1 xA rfl h (fun K KX k => ⟨(j, v, N, V, T, W, sc, os), rfl, rfl, hj, hv, gv, cIfT c0 (cIfF c1 k)⟩) (fun K KX k => ⟨(j, v, M, P, sc, th, C, ln, R, pt, ta, B, Z), rfl, rfl, hj, hv, (by omega : 0 ≤ sc ∧ sc ≤ 6), cIfT (by omega) (cIfF (by rw [← hq]; exact c1) k)⟩)
  exact opD.ok (r := ii (N (1 + j).toNat)) (R := R) (pt := pt) (ta := ta) (B := B) (Z := Z) (h.chg (RG_suS h.1 c0 (v := v) (by have q := kMOS_at c0; omega))) (fun K KX k => ⟨(j, v, N, V, T, W, sc, os), rfl, rfl, hj, hv, gv, cIfT c0 (cIfT c1 (k))⟩) (fun K KX k => ⟨(j, v, M, P, sc, th, C, ln, R, pt, ta, B, Z), rfl, rfl, hj, hv, (by omega : 0 ≤ sc ∧ sc ≤ 6), cIfT (by omega) (cIfT (by rw [← hq]; exact c1) ((by rw [RG_setting h.1 c0] at k; exact k)))⟩)
theorem op_place {g : gW} {N V : Nat → Int} {T : tFT} {W : tWY} {sc os : Int} {M P C : Nat → Int} {ln : Int} {R : Nat → Int} {pt ta th : Int} {B Z : Nat → Int} (h : INV N V T W sc os M P C ln) {t i m p : Int} (ht : r32 t) (hi : r32 i) (hm : r32 m) (hp : r32 p) : opD [xI, xA] g (sp_X3_place g) (sp_X4_place g) [.ref (gA g 20), .int (ii t), .int (ii i), .int (ii m), .int (ii p)] [.ref (gA g 34), .int (ii t), .int (ii i), .int (ii m), .int (ii p)] (wTF g N V T W sc os) (wMO g M P sc th C ln R pt ta B Z) := by
  have e0 := h.1.1.1
  have gw := h.1.2.1.1
  have gv := h.2.1
  by_cases c0 : 0 ≤ t ∧ t < 4
  case neg =>
    exact opD.no (r := ii 0) (R := R) (pt := pt) (ta := ta) (B := B) (Z := Z) 0 xI rfl h (fun K KX k => ⟨(t, i, m, p, N, V, T, W, sc, os), rfl, rfl, ht, hi, hm, hp, gv, cIfF c0 k⟩) (fun K KX k => ⟨(t, i, m, p, M, P, sc, th, C, ln, R, pt, ta, B, Z), rfl, rfl, ht, hi, hm, hp, (by omega : 0 ≤ sc ∧ sc ≤ 6), cIfF (by omega) k⟩)
  by_cases c1 : 0 ≤ i ∧ i < 8
  case neg =>
    exact opD.no (r := ii 0) (R := R) (pt := pt) (ta := ta) (B := B) (Z := Z) 0 xI rfl h (fun K KX k => ⟨(t, i, m, p, N, V, T, W, sc, os), rfl, rfl, ht, hi, hm, hp, gv, cIfT c0 (cIfF c1 k)⟩) (fun K KX k => ⟨(t, i, m, p, M, P, sc, th, C, ln, R, pt, ta, B, Z), rfl, rfl, ht, hi, hm, hp, (by omega : 0 ≤ sc ∧ sc ≤ 6), cIfF (by omega) k⟩)
  by_cases c2 : 0 ≤ m ∧ m ≤ 1439
  case neg =>
    exact opD.no (r := ii 0) (R := R) (pt := pt) (ta := ta) (B := B) (Z := Z) 1 xA rfl h (fun K KX k => ⟨(t, i, m, p, N, V, T, W, sc, os), rfl, rfl, ht, hi, hm, hp, gv, cIfT c0 (cIfT c1 (cIfF c2 k))⟩) (fun K KX k => ⟨(t, i, m, p, M, P, sc, th, C, ln, R, pt, ta, B, Z), rfl, rfl, ht, hi, hm, hp, (by omega : 0 ≤ sc ∧ sc ≤ 6), cIfT (by omega) (cIfF (by omega) k)⟩)
  by_cases c3 : 0 ≤ p ∧ p ≤ 999
  case neg =>
    exact opD.no (r := ii 0) (R := R) (pt := pt) (ta := ta) (B := B) (Z := Z) 1 xA rfl h (fun K KX k => ⟨(t, i, m, p, N, V, T, W, sc, os), rfl, rfl, ht, hi, hm, hp, gv, cIfT c0 (cIfT c1 (cIfT c2 (cIfF c3 k)))⟩) (fun K KX k => ⟨(t, i, m, p, M, P, sc, th, C, ln, R, pt, ta, B, Z), rfl, rfl, ht, hi, hm, hp, (by omega : 0 ≤ sc ∧ sc ≤ 6), cIfT (by omega) (cIfF (by omega) k)⟩)
  exact opD.ok (r := ii (N (3 + t * 5 + 2).toNat)) (R := R) (pt := pt) (ta := ta) (B := B) (Z := Z) (h.chg (RG_suT (RG_suT (RG_suT h.1 c0 (k := 0) (v := i) (by omega) (by omega)) c0 (k := 1) (v := m) (by omega) (by omega)) c0 (k := 2) (v := p) (by omega) (by omega))) (fun K KX k => ⟨(t, i, m, p, N, V, T, W, sc, os), rfl, rfl, ht, hi, hm, hp, gv, cIfT c0 (cIfT c1 (cIfT c2 (cIfT c3 (k))))⟩) (fun K KX k => ⟨(t, i, m, p, M, P, sc, th, C, ln, R, pt, ta, B, Z), rfl, rfl, ht, hi, hm, hp, (by omega : 0 ≤ sc ∧ sc ≤ 6), cIfT (by omega) (cIfT (by omega) ((by rw [h.1.1.2.2.2.1 t 2 c0.1 c0.2 (by omega) (by omega)] at k; exact k)))⟩)
theorem op_rest {g : gW} {N V : Nat → Int} {T : tFT} {W : tWY} {sc os : Int} {M P C : Nat → Int} {ln : Int} {R : Nat → Int} {pt ta th : Int} {B Z : Nat → Int} (h : INV N V T W sc os M P C ln) {t m : Int} (ht : r32 t) (hm : r32 m) : opD [xI, xA, xS] g (sp_X3_rest g) (sp_X4_rest g) [.ref (gA g 20), .int (ii t), .int (ii m)] [.ref (gA g 34), .int (ii t), .int (ii m)] (wTF g N V T W sc os) (wMO g M P sc th C ln R pt ta B Z) := by
  have e0 := h.1.1.1
  have gw := h.1.2.1.1
  have gv := h.2.1
  by_cases c0 : 0 ≤ t ∧ t < 4
  case neg =>
    exact opD.no (r := ii 0) (R := R) (pt := pt) (ta := ta) (B := B) (Z := Z) 0 xI rfl h (fun K KX k => ⟨(t, m, N, V, T, W, sc, os), rfl, rfl, ht, hm, gv, h.1.2.2, cIfF c0 k⟩) (fun K KX k => ⟨(t, m, M, P, sc, th, C, ln, R, pt, ta, B, Z), rfl, rfl, ht, hm, (by omega : 0 ≤ sc ∧ sc ≤ 6), RG_T h.1, cIfF (by omega) k⟩)
  by_cases c1 : 1 ≤ m ∧ m ≤ 720
  case neg =>
    exact opD.no (r := ii 0) (R := R) (pt := pt) (ta := ta) (B := B) (Z := Z) 1 xA rfl h (fun K KX k => ⟨(t, m, N, V, T, W, sc, os), rfl, rfl, ht, hm, gv, h.1.2.2, cIfT c0 (cIfF c1 k)⟩) (fun K KX k => ⟨(t, m, M, P, sc, th, C, ln, R, pt, ta, B, Z), rfl, rfl, ht, hm, (by omega : 0 ≤ sc ∧ sc ≤ 6), RG_T h.1, cIfT (by omega) (cIfF (by omega) k)⟩)
  by_cases c2 : N (3 + t * 5 + 1).toNat + m ≤ 1439
  case neg =>
    exact opD.no (r := ii 0) (R := R) (pt := pt) (ta := ta) (B := B) (Z := Z) 2 xS rfl h (fun K KX k => ⟨(t, m, N, V, T, W, sc, os), rfl, rfl, ht, hm, gv, h.1.2.2, cIfT c0 (cIfT c1 (cIfF c2 k))⟩) (fun K KX k => ⟨(t, m, M, P, sc, th, C, ln, R, pt, ta, B, Z), rfl, rfl, ht, hm, (by omega : 0 ≤ sc ∧ sc ≤ 6), RG_T h.1, cIfT (by omega) (cIfT (by omega) (cIfF (by have e := h.1.1.2.2.2.1 t 1 c0.1 c0.2 (by omega) (by omega); rw [← e]; exact c2) k))⟩)
  exact opD.ok (r := ii (N (3 + t * 5 + 1).toNat + m)) (R := R) (pt := pt) (ta := ta) (B := B) (Z := Z) (by have e := h.1.1.2.2.2.1 t 1 c0.1 c0.2 (by omega) (by omega); exact h.chg (RG_suT h.1 c0 (k := 1) (v := N (3 + t * 5 + 1).toNat + m) (by omega) (by have q := (h.1.2.2 t c0.1 c0.2).2.1; omega))) (fun K KX k => ⟨(t, m, N, V, T, W, sc, os), rfl, rfl, ht, hm, gv, h.1.2.2, cIfT c0 (cIfT c1 (cIfT c2 (k)))⟩) (fun K KX k => ⟨(t, m, M, P, sc, th, C, ln, R, pt, ta, B, Z), rfl, rfl, ht, hm, (by omega : 0 ≤ sc ∧ sc ≤ 6), RG_T h.1, cIfT (by omega) (cIfT (by omega) (cIfT (by have e := h.1.1.2.2.2.1 t 1 c0.1 c0.2 (by omega) (by omega); rw [← e]; exact c2) ((by rw [← h.1.1.2.2.2.1 t 1 c0.1 c0.2 (by omega) (by omega)]; exact k))))⟩)
theorem op_undo {g : gW} {N V : Nat → Int} {T : tFT} {W : tWY} {sc os : Int} {M P C : Nat → Int} {ln : Int} {R : Nat → Int} {pt ta th : Int} {B Z : Nat → Int} (h : INV N V T W sc os M P C ln)  : opD [xS] g (sp_X3_undo g) (sp_X4_undo g) [.ref (gA g 20)] [.ref (gA g 34)] (wTF g N V T W sc os) (wMO g M P sc th C ln R pt ta B Z) := by
  have e0 := h.1.1.1
  have gw := h.1.2.1.1
  have gv := h.2.1
  by_cases c0 : 0 < sc
  case neg =>
    exact opD.no (r := ii 0) (R := R) (pt := pt) (ta := ta) (B := B) (Z := Z) 0 xS rfl h (fun K KX k => ⟨(N, V, T, W, sc, os), rfl, rfl, gv, cIfF c0 k⟩) (fun K KX k => ⟨(M, P, sc, th, C, ln, R, pt, ta, B, Z), rfl, rfl, (by omega : 0 ≤ sc ∧ sc ≤ 6), cIfF (by omega) k⟩)
  exact opD.ok (r := ii (sc - 1)) (R := R) (pt := pt) (ta := ta) (B := B) (Z := Z) (⟨(SV_undo (N := N) (M := M) gv c0 h.2.2.1).1, (SV_undo (N := N) (M := M) gv c0 h.2.2.1).2.2, (SV_undo (N := N) (M := M) gv c0 h.2.2.1).2.1, h.2.2.2⟩) (fun K KX k => ⟨(N, V, T, W, sc, os), rfl, rfl, gv, cIfT c0 (k)⟩) (fun K KX k => ⟨(M, P, sc, th, C, ln, R, pt, ta, B, Z), rfl, rfl, (by omega : 0 ≤ sc ∧ sc ≤ 6), cIfT (by omega) (k)⟩)
theorem op_ferryOf {g : gW} {N V : Nat → Int} {T : tFT} {W : tWY} {sc os : Int} {M P C : Nat → Int} {ln : Int} {R : Nat → Int} {pt ta th : Int} {B Z : Nat → Int} (h : INV N V T W sc os M P C ln) {f j : Int} (hf : r32 f) (hj : r32 j) : opD [xI, xA] g (sp_X3_ferryOf g) (sp_X4_ferryOf g) [.ref (gA g 20), .int (ii f), .int (ii j)] [.ref (gA g 34), .int (ii f), .int (ii j)] (wTF g N V T W sc os) (wMO g M P sc th C ln R pt ta B Z) := by
  have e0 := h.1.1.1
  have gw := h.1.2.1.1
  have gv := h.2.1
  by_cases c0 : 0 ≤ f ∧ f < N 0
  case neg =>
    exact opD.no (r := ii 0) (R := R) (pt := pt) (ta := ta) (B := B) (Z := Z) 0 xI rfl h (fun K KX k => ⟨(f, j, N, V, T, W, sc, os), rfl, rfl, hf, hj, gw, cIfF c0 k⟩) (fun K KX k => ⟨(f, j, M, P, sc, th, C, ln, R, pt, ta, B, Z), rfl, rfl, hf, hj, (by omega : 0 ≤ M 2 ∧ M 2 ≤ 14), cIfF (by omega) k⟩)
  by_cases c1 : 0 ≤ j ∧ j ≤ 8
  case neg =>
    exact opD.no (r := ii 0) (R := R) (pt := pt) (ta := ta) (B := B) (Z := Z) 1 xA rfl h (fun K KX k => ⟨(f, j, N, V, T, W, sc, os), rfl, rfl, hf, hj, gw, cIfT c0 (cIfF c1 k)⟩) (fun K KX k => ⟨(f, j, M, P, sc, th, C, ln, R, pt, ta, B, Z), rfl, rfl, hf, hj, (by omega : 0 ≤ M 2 ∧ M 2 ≤ 14), cIfT (by omega) (cIfF (by omega) k)⟩)
  exact opD.ok (r := ii (N (23 + f * 9 + j).toNat)) (R := R) (pt := pt) (ta := ta) (B := B) (Z := Z) (h) (fun K KX k => ⟨(f, j, N, V, T, W, sc, os), rfl, rfl, hf, hj, gw, cIfT c0 (cIfT c1 (k))⟩) (fun K KX k => ⟨(f, j, M, P, sc, th, C, ln, R, pt, ta, B, Z), rfl, rfl, hf, hj, (by omega : 0 ≤ M 2 ∧ M 2 ≤ 14), cIfT (by omega) (cIfT (by omega) ((by rw [h.1.1.2.2.2.2 f j c0.1 c0.2 (by omega) (by omega)] at k; exact k)))⟩)
theorem op_traveller {g : gW} {N V : Nat → Int} {T : tFT} {W : tWY} {sc os : Int} {M P C : Nat → Int} {ln : Int} {R : Nat → Int} {pt ta th : Int} {B Z : Nat → Int} (h : INV N V T W sc os M P C ln) {t j : Int} (ht : r32 t) (hj : r32 j) : opD [xI, xA] g (sp_X3_traveller g) (sp_X4_traveller g) [.ref (gA g 20), .int (ii t), .int (ii j)] [.ref (gA g 34), .int (ii t), .int (ii j)] (wTF g N V T W sc os) (wMO g M P sc th C ln R pt ta B Z) := by
  have e0 := h.1.1.1
  have gw := h.1.2.1.1
  have gv := h.2.1
  by_cases c0 : 0 ≤ t ∧ t < 4
  case neg =>
    exact opD.no (r := ii 0) (R := R) (pt := pt) (ta := ta) (B := B) (Z := Z) 0 xI rfl h (fun K KX k => ⟨(t, j, N, V, T, W, sc, os), rfl, rfl, ht, hj, cIfF c0 k⟩) (fun K KX k => ⟨(t, j, M, P, sc, th, C, ln, R, pt, ta, B, Z), rfl, rfl, ht, hj, cIfF (by omega) k⟩)
  by_cases c1 : 0 ≤ j ∧ j ≤ 4
  case neg =>
    exact opD.no (r := ii 0) (R := R) (pt := pt) (ta := ta) (B := B) (Z := Z) 1 xA rfl h (fun K KX k => ⟨(t, j, N, V, T, W, sc, os), rfl, rfl, ht, hj, cIfT c0 (cIfF c1 k)⟩) (fun K KX k => ⟨(t, j, M, P, sc, th, C, ln, R, pt, ta, B, Z), rfl, rfl, ht, hj, cIfT (by omega) (cIfF (by omega) k)⟩)
  exact opD.ok (r := ii (N (3 + t * 5 + j).toNat)) (R := R) (pt := pt) (ta := ta) (B := B) (Z := Z) (h) (fun K KX k => ⟨(t, j, N, V, T, W, sc, os), rfl, rfl, ht, hj, cIfT c0 (cIfT c1 (k))⟩) (fun K KX k => ⟨(t, j, M, P, sc, th, C, ln, R, pt, ta, B, Z), rfl, rfl, ht, hj, cIfT (by omega) (cIfT (by omega) ((by rw [h.1.1.2.2.2.1 t j c0.1 c0.2 (by omega) (by omega)] at k; exact k)))⟩)
theorem op_leaves {g : gW} {N V : Nat → Int} {T : tFT} {W : tWY} {sc os : Int} {M P C : Nat → Int} {ln : Int} {R : Nat → Int} {pt ta th : Int} {B Z : Nat → Int} (h : INV N V T W sc os M P C ln) {f m : Int} (hf : r32 f) (hm : r32 m) : opD [xI, xA] g (sp_X3_leaves g) (sp_X4_leaves g) [.ref (gA g 20), .int (ii f), .int (ii m)] [.ref (gA g 34), .int (ii f), .int (ii m)] (wTF g N V T W sc os) (wMO g M P sc th C ln R pt ta B Z) := by
  have e0 := h.1.1.1
  have gw := h.1.2.1.1
  have gv := h.2.1
  by_cases c0 : 0 ≤ f ∧ f < N 0
  case neg =>
    exact opD.no (r := ii 0) (R := R) (pt := pt) (ta := ta) (B := B) (Z := Z) 0 xI rfl h (fun K KX k => ⟨(f, m, N, V, T, W, sc, os), rfl, rfl, hf, hm, h.1.2.1, cIfF c0 k⟩) (fun K KX k => ⟨(f, m, M, P, sc, th, C, ln, R, pt, ta, B, Z), rfl, rfl, hf, hm, (by omega : 0 ≤ M 2 ∧ M 2 ≤ 14), (fun f a b => (RG_G h.1 a (by omega)).1), RG_U h.1, cIfF (by omega) k⟩)
  by_cases c1 : 0 ≤ m ∧ m ≤ 1539
  case neg =>
    exact opD.no (r := ii 0) (R := R) (pt := pt) (ta := ta) (B := B) (Z := Z) 1 xA rfl h (fun K KX k => ⟨(f, m, N, V, T, W, sc, os), rfl, rfl, hf, hm, h.1.2.1, cIfT c0 (cIfF c1 k)⟩) (fun K KX k => ⟨(f, m, M, P, sc, th, C, ln, R, pt, ta, B, Z), rfl, rfl, hf, hm, (by omega : 0 ≤ M 2 ∧ M 2 ≤ 14), (fun f a b => (RG_G h.1 a (by omega)).1), RG_U h.1, cIfT (by omega) (cIfF (by omega) k)⟩)
  exact opD.ok (r := ii (NL N f m)) (R := R) (pt := pt) (ta := ta) (B := B) (Z := Z) (h) (fun K KX k => ⟨(f, m, N, V, T, W, sc, os), rfl, rfl, hf, hm, h.1.2.1, cIfT c0 (cIfT c1 (k))⟩) (fun K KX k => ⟨(f, m, M, P, sc, th, C, ln, R, pt, ta, B, Z), rfl, rfl, hf, hm, (by omega : 0 ≤ M 2 ∧ M 2 ≤ 14), (fun f a b => (RG_G h.1 a (by omega)).1), RG_U h.1, cIfT (by omega) (cIfT (by omega) ((by rw [RG_NL h.1 c0.1 c0.2 c1.1] at k; exact k)))⟩)
theorem op_costs {g : gW} {N V : Nat → Int} {T : tFT} {W : tWY} {sc os : Int} {M P C : Nat → Int} {ln : Int} {R : Nat → Int} {pt ta th : Int} {B Z : Nat → Int} (h : INV N V T W sc os M P C ln) {f m : Int} (hf : r32 f) (hm : r32 m) : opD [xI, xA] g (sp_X3_costs g) (sp_X4_costs g) [.ref (gA g 20), .int (ii f), .int (ii m)] [.ref (gA g 34), .int (ii f), .int (ii m)] (wTF g N V T W sc os) (wMO g M P sc th C ln R pt ta B Z) := by
  have e0 := h.1.1.1
  have gw := h.1.2.1.1
  have gv := h.2.1
  by_cases c0 : 0 ≤ f ∧ f < N 0
  case neg =>
    exact opD.no (r := ii 0) (R := R) (pt := pt) (ta := ta) (B := B) (Z := Z) 0 xI rfl h (fun K KX k => ⟨(f, m, N, V, T, W, sc, os), rfl, rfl, hf, hm, h.1.2.1, cIfF c0 k⟩) (fun K KX k => ⟨(f, m, M, P, sc, th, C, ln, R, pt, ta, B, Z), rfl, rfl, hf, hm, (by omega : 0 ≤ M 2 ∧ M 2 ≤ 14), (fun f a b => (RG_G h.1 a (by omega)).1), RG_U h.1, cIfF (by omega) k⟩)
  by_cases c1 : 0 ≤ m ∧ m ≤ 1439
  case neg =>
    exact opD.no (r := ii 0) (R := R) (pt := pt) (ta := ta) (B := B) (Z := Z) 1 xA rfl h (fun K KX k => ⟨(f, m, N, V, T, W, sc, os), rfl, rfl, hf, hm, h.1.2.1, cIfT c0 (cIfF c1 k)⟩) (fun K KX k => ⟨(f, m, M, P, sc, th, C, ln, R, pt, ta, B, Z), rfl, rfl, hf, hm, (by omega : 0 ≤ M 2 ∧ M 2 ≤ 14), (fun f a b => (RG_G h.1 a (by omega)).1), RG_U h.1, cIfT (by omega) (cIfF (by omega) k)⟩)
  exact opD.ok (r := ii (PR N f m)) (R := R) (pt := pt) (ta := ta) (B := B) (Z := Z) (h) (fun K KX k => ⟨(f, m, N, V, T, W, sc, os), rfl, rfl, hf, hm, h.1.2.1, cIfT c0 (cIfT c1 (k))⟩) (fun K KX k => ⟨(f, m, M, P, sc, th, C, ln, R, pt, ta, B, Z), rfl, rfl, hf, hm, (by omega : 0 ≤ M 2 ∧ M 2 ≤ 14), (fun f a b => (RG_G h.1 a (by omega)).1), RG_U h.1, cIfT (by omega) (cIfT (by omega) ((by rw [RG_PR h.1 c0.1 c0.2] at k; exact k)))⟩)
theorem op_count {g : gW} {N V : Nat → Int} {T : tFT} {W : tWY} {sc os : Int} {M P C : Nat → Int} {ln : Int} {R : Nat → Int} {pt ta th : Int} {B Z : Nat → Int} (h : INV N V T W sc os M P C ln) {j : Int} (hj : r32 j) : opD [xA] g (sp_X3_count g) (sp_X4_count g) [.ref (gA g 20), .int (ii j)] [.ref (gA g 34), .int (ii j)] (wTF g N V T W sc os) (wMO g M P sc th C ln R pt ta B Z) := by
  have e0 := h.1.1.1
  have gw := h.1.2.1.1
  have gv := h.2.1
  by_cases c0 : 0 ≤ j ∧ j ≤ 4
  case neg =>
    exact opD.no (r := ii 0) (R := R) (pt := pt) (ta := ta) (B := B) (Z := Z) 0 xA rfl h (fun K KX k => ⟨(j, N, V, T, W, sc, os), rfl, rfl, hj, cIfF c0 k⟩) (fun K KX k => ⟨(j, M, P, sc, th, C, ln, R, pt, ta, B, Z), rfl, rfl, hj, cIfF (by omega) k⟩)
  exact opD.ok (r := ii (tot N sc j)) (R := R) (pt := pt) (ta := ta) (B := B) (Z := Z) (h) (fun K KX k => ⟨(j, N, V, T, W, sc, os), rfl, rfl, hj, cIfT c0 (k)⟩) (fun K KX k => ⟨(j, M, P, sc, th, C, ln, R, pt, ta, B, Z), rfl, rfl, hj, cIfT (by omega) ((by rw [tot_eq h.1] at k; exact k))⟩)
theorem op_setting {g : gW} {N V : Nat → Int} {T : tFT} {W : tWY} {sc os : Int} {M P C : Nat → Int} {ln : Int} {R : Nat → Int} {pt ta th : Int} {B Z : Nat → Int} (h : INV N V T W sc os M P C ln) {j : Int} (hj : r32 j) : opD [xI] g (sp_X3_setting g) (sp_X4_setting g) [.ref (gA g 20), .int (ii j)] [.ref (gA g 34), .int (ii j)] (wTF g N V T W sc os) (wMO g M P sc th C ln R pt ta B Z) := by
  have e0 := h.1.1.1
  have gw := h.1.2.1.1
  have gv := h.2.1
  by_cases c0 : 0 ≤ j ∧ j < 2
  case neg =>
    exact opD.no (r := ii 0) (R := R) (pt := pt) (ta := ta) (B := B) (Z := Z) 0 xI rfl h (fun K KX k => ⟨(j, N, V, T, W, sc, os), rfl, rfl, hj, cIfF c0 k⟩) (fun K KX k => ⟨(j, M, P, sc, th, C, ln, R, pt, ta, B, Z), rfl, rfl, hj, cIfF (by omega) k⟩)
  exact opD.ok (r := ii (N (1 + j).toNat)) (R := R) (pt := pt) (ta := ta) (B := B) (Z := Z) (h) (fun K KX k => ⟨(j, N, V, T, W, sc, os), rfl, rfl, hj, cIfT c0 (k)⟩) (fun K KX k => ⟨(j, M, P, sc, th, C, ln, R, pt, ta, B, Z), rfl, rfl, hj, cIfT (by omega) ((by rw [RG_setting h.1 c0] at k; exact k))⟩)
theorem op_refusal {g : gW} {N V : Nat → Int} {T : tFT} {W : tWY} {sc os : Int} {M P C : Nat → Int} {ln : Int} {R : Nat → Int} {pt ta th : Int} {B Z : Nat → Int} (h : INV N V T W sc os M P C ln) {t f : Int} (ht : r32 t) (hf : r32 f) : opD [xI] g (sp_X3_refusal g) (sp_X4_refusal g) [.ref (gA g 20), .int (ii t), .int (ii f)] [.ref (gA g 34), .int (ii t), .int (ii f)] (wTF g N V T W sc os) (wMO g M P sc th C ln R pt ta B Z) := by
  have e0 := h.1.1.1
  have gw := h.1.2.1.1
  have gv := h.2.1
  by_cases c0 : 0 ≤ t ∧ t < 4
  case neg =>
    exact opD.no (r := ii 0) (R := R) (pt := pt) (ta := ta) (B := B) (Z := Z) 0 xI rfl h (fun K KX k => ⟨(t, f, N, V, T, W, sc, os), rfl, rfl, ht, hf, h.1.2.2, h.1.2.1, cIfF c0 k⟩) (fun K KX k => ⟨(t, f, M, P, sc, th, C, ln, R, pt, ta, B, Z), rfl, rfl, ht, hf, (by omega : 0 ≤ M 2 ∧ M 2 ≤ 14), RG_U h.1, (fun f a b => RG_G h.1 a (by omega)), RG_T h.1, cIfF (by omega) k⟩)
  by_cases c1 : 0 ≤ f ∧ f < N 0
  case neg =>
    exact opD.no (r := ii 0) (R := R) (pt := pt) (ta := ta) (B := B) (Z := Z) 0 xI rfl h (fun K KX k => ⟨(t, f, N, V, T, W, sc, os), rfl, rfl, ht, hf, h.1.2.2, h.1.2.1, cIfT c0 (cIfF c1 k)⟩) (fun K KX k => ⟨(t, f, M, P, sc, th, C, ln, R, pt, ta, B, Z), rfl, rfl, ht, hf, (by omega : 0 ≤ M 2 ∧ M 2 ≤ 14), RG_U h.1, (fun f a b => RG_G h.1 a (by omega)), RG_T h.1, cIfF (by omega) k⟩)
  exact opD.ok (r := ii (why N t f)) (R := R) (pt := pt) (ta := ta) (B := B) (Z := Z) (h) (fun K KX k => ⟨(t, f, N, V, T, W, sc, os), rfl, rfl, ht, hf, h.1.2.2, h.1.2.1, cIfT c0 (cIfT c1 (k))⟩) (fun K KX k => ⟨(t, f, M, P, sc, th, C, ln, R, pt, ta, B, Z), rfl, rfl, ht, hf, (by omega : 0 ≤ M 2 ∧ M 2 ≤ 14), RG_U h.1, (fun f a b => RG_G h.1 a (by omega)), RG_T h.1, cIfT (by omega) ((by rw [RG_why h.1 c0.1 c0.2 c1.1 c1.2] at k; exact k))⟩)
theorem op_ferry {g : gW} {N V : Nat → Int} {T : tFT} {W : tWY} {sc os : Int} {M P C : Nat → Int} {ln : Int} {R : Nat → Int} {pt ta th : Int} {B Z : Nat → Int} (h : INV N V T W sc os M P C ln) {a b c d e f : Int} (ha : r32 a) (hb : r32 b) (hc : r32 c) (hd : r32 d) (he : r32 e) (hf : r32 f) : opD [xI, xA, xS] g (sp_X3_ferry g) (sp_X4_ferry g) [.ref (gA g 20), .int (ii a), .int (ii b), .int (ii c), .int (ii d), .int (ii e), .int (ii f)] [.ref (gA g 34), .int (ii a), .int (ii b), .int (ii c), .int (ii d), .int (ii e), .int (ii f)] (wTF g N V T W sc os) (wMO g M P sc th C ln R pt ta B Z) := by
  have e0 := h.1.1.1
  have gw := h.1.2.1.1
  have gv := h.2.1
  by_cases c0 : 0 ≤ a ∧ a < 8
  case neg =>
    exact opD.no (r := ii 0) (R := R) (pt := pt) (ta := ta) (B := B) (Z := Z) 0 xI rfl h (fun K KX k => ⟨(a, b, c, d, e, f, N, V, T, W, sc, os), rfl, rfl, ha, hb, hc, hd, he, hf, gv, gw, cIfF c0 k⟩) (fun K KX k => ⟨(a, b, c, d, e, f, M, P, sc, th, C, ln, R, pt, ta, B, Z), rfl, rfl, ha, hb, hc, hd, he, hf, (by omega : 0 ≤ M 2 ∧ M 2 ≤ 14), (by omega : 0 ≤ sc ∧ sc ≤ 6), cIfF (by omega) k⟩)
  by_cases c1 : 0 ≤ b ∧ b < 8
  case neg =>
    exact opD.no (r := ii 0) (R := R) (pt := pt) (ta := ta) (B := B) (Z := Z) 0 xI rfl h (fun K KX k => ⟨(a, b, c, d, e, f, N, V, T, W, sc, os), rfl, rfl, ha, hb, hc, hd, he, hf, gv, gw, cIfT c0 (cIfF c1 k)⟩) (fun K KX k => ⟨(a, b, c, d, e, f, M, P, sc, th, C, ln, R, pt, ta, B, Z), rfl, rfl, ha, hb, hc, hd, he, hf, (by omega : 0 ≤ M 2 ∧ M 2 ≤ 14), (by omega : 0 ≤ sc ∧ sc ≤ 6), cIfF (by omega) k⟩)
  by_cases c2 : a ≠ b
  case neg =>
    exact opD.no (r := ii 0) (R := R) (pt := pt) (ta := ta) (B := B) (Z := Z) 1 xA rfl h (fun K KX k => ⟨(a, b, c, d, e, f, N, V, T, W, sc, os), rfl, rfl, ha, hb, hc, hd, he, hf, gv, gw, cIfT c0 (cIfT c1 (cIfF c2 k))⟩) (fun K KX k => ⟨(a, b, c, d, e, f, M, P, sc, th, C, ln, R, pt, ta, B, Z), rfl, rfl, ha, hb, hc, hd, he, hf, (by omega : 0 ≤ M 2 ∧ M 2 ≤ 14), (by omega : 0 ≤ sc ∧ sc ≤ 6), cIfT (by omega) (cIfF (by omega) k)⟩)
  by_cases c3 : 0 ≤ c ∧ c ≤ 199
  case neg =>
    exact opD.no (r := ii 0) (R := R) (pt := pt) (ta := ta) (B := B) (Z := Z) 1 xA rfl h (fun K KX k => ⟨(a, b, c, d, e, f, N, V, T, W, sc, os), rfl, rfl, ha, hb, hc, hd, he, hf, gv, gw, cIfT c0 (cIfT c1 (cIfT c2 (cIfF c3 k)))⟩) (fun K KX k => ⟨(a, b, c, d, e, f, M, P, sc, th, C, ln, R, pt, ta, B, Z), rfl, rfl, ha, hb, hc, hd, he, hf, (by omega : 0 ≤ M 2 ∧ M 2 ≤ 14), (by omega : 0 ≤ sc ∧ sc ≤ 6), cIfT (by omega) (cIfF (by omega) k)⟩)
  by_cases c4 : 1 ≤ d ∧ d ≤ 199
  case neg =>
    exact opD.no (r := ii 0) (R := R) (pt := pt) (ta := ta) (B := B) (Z := Z) 1 xA rfl h (fun K KX k => ⟨(a, b, c, d, e, f, N, V, T, W, sc, os), rfl, rfl, ha, hb, hc, hd, he, hf, gv, gw, cIfT c0 (cIfT c1 (cIfT c2 (cIfT c3 (cIfF c4 k))))⟩) (fun K KX k => ⟨(a, b, c, d, e, f, M, P, sc, th, C, ln, R, pt, ta, B, Z), rfl, rfl, ha, hb, hc, hd, he, hf, (by omega : 0 ≤ M 2 ∧ M 2 ≤ 14), (by omega : 0 ≤ sc ∧ sc ≤ 6), cIfT (by omega) (cIfF (by omega) k)⟩)
  by_cases c5 : 1 ≤ e ∧ e ≤ 99
  case neg =>
    exact opD.no (r := ii 0) (R := R) (pt := pt) (ta := ta) (B := B) (Z := Z) 1 xA rfl h (fun K KX k => ⟨(a, b, c, d, e, f, N, V, T, W, sc, os), rfl, rfl, ha, hb, hc, hd, he, hf, gv, gw, cIfT c0 (cIfT c1 (cIfT c2 (cIfT c3 (cIfT c4 (cIfF c5 k)))))⟩) (fun K KX k => ⟨(a, b, c, d, e, f, M, P, sc, th, C, ln, R, pt, ta, B, Z), rfl, rfl, ha, hb, hc, hd, he, hf, (by omega : 0 ≤ M 2 ∧ M 2 ≤ 14), (by omega : 0 ≤ sc ∧ sc ≤ 6), cIfT (by omega) (cIfF (by omega) k)⟩)
  by_cases c6 : 0 ≤ f ∧ f ≤ 99
  case neg =>
    exact opD.no (r := ii 0) (R := R) (pt := pt) (ta := ta) (B := B) (Z := Z) 1 xA rfl h (fun K KX k => ⟨(a, b, c, d, e, f, N, V, T, W, sc, os), rfl, rfl, ha, hb, hc, hd, he, hf, gv, gw, cIfT c0 (cIfT c1 (cIfT c2 (cIfT c3 (cIfT c4 (cIfT c5 (cIfF c6 k))))))⟩) (fun K KX k => ⟨(a, b, c, d, e, f, M, P, sc, th, C, ln, R, pt, ta, B, Z), rfl, rfl, ha, hb, hc, hd, he, hf, (by omega : 0 ≤ M 2 ∧ M 2 ≤ 14), (by omega : 0 ≤ sc ∧ sc ≤ 6), cIfT (by omega) (cIfF (by omega) k)⟩)
  by_cases c7 : N 0 < 14
  case neg =>
    exact opD.no (r := ii 0) (R := R) (pt := pt) (ta := ta) (B := B) (Z := Z) 2 xS rfl h (fun K KX k => ⟨(a, b, c, d, e, f, N, V, T, W, sc, os), rfl, rfl, ha, hb, hc, hd, he, hf, gv, gw, cIfT c0 (cIfT c1 (cIfT c2 (cIfT c3 (cIfT c4 (cIfT c5 (cIfT c6 (cIfF c7 k)))))))⟩) (fun K KX k => ⟨(a, b, c, d, e, f, M, P, sc, th, C, ln, R, pt, ta, B, Z), rfl, rfl, ha, hb, hc, hd, he, hf, (by omega : 0 ≤ M 2 ∧ M 2 ≤ 14), (by omega : 0 ≤ sc ∧ sc ≤ 6), cIfT (by omega) (cIfT (by omega) (cIfF (by omega) k))⟩)
  exact opD.ok (r := ii (tellN N a b c d e f 0 0 - 1)) (R := R) (pt := pt) (ta := ta) (B := B) (Z := Z) (h.chg (RG_tell h.1 c7 (by omega) (by omega) c3 c4 c5 c6 (by omega))) (fun K KX k => ⟨(a, b, c, d, e, f, N, V, T, W, sc, os), rfl, rfl, ha, hb, hc, hd, he, hf, gv, gw, cIfT c0 (cIfT c1 (cIfT c2 (cIfT c3 (cIfT c4 (cIfT c5 (cIfT c6 (cIfT c7 (k))))))))⟩) (fun K KX k => ⟨(a, b, c, d, e, f, M, P, sc, th, C, ln, R, pt, ta, B, Z), rfl, rfl, ha, hb, hc, hd, he, hf, (by omega : 0 ≤ M 2 ∧ M 2 ≤ 14), (by omega : 0 ≤ sc ∧ sc ≤ 6), cIfT (by omega) (cIfT (by omega) (cIfT (by omega) ((by have q := (RG_tell h.1 (k := 0) c7 (by omega : 0 ≤ a ∧ a ≤ 7) (by omega : 0 ≤ b ∧ b ≤ 7) c3 c4 c5 c6 (by omega)).1.1; rw [q] at k; exact k))))⟩)
theorem op_soonest {g : gW} {N V : Nat → Int} {T : tFT} {W : tWY} {sc os : Int} {M P C : Nat → Int} {ln : Int} {R : Nat → Int} {pt ta th : Int} {B Z : Nat → Int} (h : INV N V T W sc os M P C ln) {i j m : Int} (hi : r32 i) (hj : r32 j) (hm : r32 m) : opD [xI, xA] g (sp_X3_soonest g) (sp_X4_soonest g) [.ref (gA g 20), .int (ii i), .int (ii j), .int (ii m)] [.ref (gA g 34), .int (ii i), .int (ii j), .int (ii m)] (wTF g N V T W sc os) (wMO g M P sc th C ln R pt ta B Z) := by
  have e0 := h.1.1.1
  have gw := h.1.2.1.1
  have gv := h.2.1
  by_cases c0 : 0 ≤ i ∧ i < 8
  case neg =>
    exact opD.no (r := ii 0) (R := R) (pt := pt) (ta := ta) (B := B) (Z := Z) 0 xI rfl h (fun K KX k => ⟨(i, j, m, N, V, T, W, sc, os), rfl, rfl, hi, hj, hm, h.1.2.1, cIfF c0 k⟩) (fun K KX k => ⟨(i, j, m, M, P, sc, th, C, ln, R, pt, ta, B, Z), rfl, rfl, hi, hj, hm, RG_X h.1, cIfF (by omega) k⟩)
  by_cases c1 : 0 ≤ j ∧ j < 8
  case neg =>
    exact opD.no (r := ii 0) (R := R) (pt := pt) (ta := ta) (B := B) (Z := Z) 0 xI rfl h (fun K KX k => ⟨(i, j, m, N, V, T, W, sc, os), rfl, rfl, hi, hj, hm, h.1.2.1, cIfT c0 (cIfF c1 k)⟩) (fun K KX k => ⟨(i, j, m, M, P, sc, th, C, ln, R, pt, ta, B, Z), rfl, rfl, hi, hj, hm, RG_X h.1, cIfF (by omega) k⟩)
  by_cases c2 : 0 ≤ m ∧ m ≤ 1439
  case neg =>
    exact opD.no (r := ii 0) (R := R) (pt := pt) (ta := ta) (B := B) (Z := Z) 1 xA rfl h (fun K KX k => ⟨(i, j, m, N, V, T, W, sc, os), rfl, rfl, hi, hj, hm, h.1.2.1, cIfT c0 (cIfT c1 (cIfF c2 k))⟩) (fun K KX k => ⟨(i, j, m, M, P, sc, th, C, ln, R, pt, ta, B, Z), rfl, rfl, hi, hj, hm, RG_X h.1, cIfT (by omega) (cIfF (by omega) k)⟩)
  exact opD.ok (r := ii (fArr N W.1 i m j.toNat)) (R := R) (pt := pt) (ta := ta) (B := spF M i m B) (Z := Z) (h.ways (W' := (fArr N W.1 i m, W.2)) h.2.2.2.2.2.2.2) (fun K KX k => ⟨(i, j, m, N, V, T, W, sc, os), rfl, rfl, hi, hj, hm, h.1.2.1, cIfT c0 (cIfT c1 (cIfT c2 (k)))⟩) (fun K KX k => ⟨(i, j, m, M, P, sc, th, C, ln, R, pt, ta, B, Z), rfl, rfl, hi, hj, hm, RG_X h.1, cIfT (by omega) (cIfT (by omega) ((by rw [fArr_un h.1 c0 c2 (B := B) (by omega)] at k; exact k)))⟩)
theorem op_cheapest {g : gW} {N V : Nat → Int} {T : tFT} {W : tWY} {sc os : Int} {M P C : Nat → Int} {ln : Int} {R : Nat → Int} {pt ta th : Int} {B Z : Nat → Int} (h : INV N V T W sc os M P C ln) {i j m l : Int} (hi : r32 i) (hj : r32 j) (hm : r32 m) (hl : r32 l) : opD [xI, xA] g (sp_X3_cheapest g) (sp_X4_cheapest g) [.ref (gA g 20), .int (ii i), .int (ii j), .int (ii m), .int (ii l)] [.ref (gA g 34), .int (ii i), .int (ii j), .int (ii m), .int (ii l)] (wTF g N V T W sc os) (wMO g M P sc th C ln R pt ta B Z) := by
  have e0 := h.1.1.1
  have gw := h.1.2.1.1
  have gv := h.2.1
  by_cases c0 : 0 ≤ i ∧ i < 8
  case neg =>
    exact opD.no (r := ii 0) (R := R) (pt := pt) (ta := ta) (B := B) (Z := Z) 0 xI rfl h (fun K KX k => ⟨(i, j, m, l, N, V, T, W, sc, os), rfl, rfl, hi, hj, hm, hl, h.1.2.1, h.2.2.2.2.2.2.2, cIfF c0 k⟩) (fun K KX k => ⟨(i, j, m, l, M, P, sc, th, C, ln, R, pt, ta, B, Z), rfl, rfl, hi, hj, hm, hl, RG_X h.1, cIfF (by omega) k⟩)
  by_cases c1 : 0 ≤ j ∧ j < 8
  case neg =>
    exact opD.no (r := ii 0) (R := R) (pt := pt) (ta := ta) (B := B) (Z := Z) 0 xI rfl h (fun K KX k => ⟨(i, j, m, l, N, V, T, W, sc, os), rfl, rfl, hi, hj, hm, hl, h.1.2.1, h.2.2.2.2.2.2.2, cIfT c0 (cIfF c1 k)⟩) (fun K KX k => ⟨(i, j, m, l, M, P, sc, th, C, ln, R, pt, ta, B, Z), rfl, rfl, hi, hj, hm, hl, RG_X h.1, cIfF (by omega) k⟩)
  by_cases c2 : 0 ≤ m ∧ m ≤ 1439
  case neg =>
    exact opD.no (r := ii 0) (R := R) (pt := pt) (ta := ta) (B := B) (Z := Z) 1 xA rfl h (fun K KX k => ⟨(i, j, m, l, N, V, T, W, sc, os), rfl, rfl, hi, hj, hm, hl, h.1.2.1, h.2.2.2.2.2.2.2, cIfT c0 (cIfT c1 (cIfF c2 k))⟩) (fun K KX k => ⟨(i, j, m, l, M, P, sc, th, C, ln, R, pt, ta, B, Z), rfl, rfl, hi, hj, hm, hl, RG_X h.1, cIfT (by omega) (cIfF (by omega) k)⟩)
  by_cases c3 : m ≤ l ∧ l ≤ 1539
  case neg =>
    exact opD.no (r := ii 0) (R := R) (pt := pt) (ta := ta) (B := B) (Z := Z) 1 xA rfl h (fun K KX k => ⟨(i, j, m, l, N, V, T, W, sc, os), rfl, rfl, hi, hj, hm, hl, h.1.2.1, h.2.2.2.2.2.2.2, cIfT c0 (cIfT c1 (cIfT c2 (cIfF c3 k)))⟩) (fun K KX k => ⟨(i, j, m, l, M, P, sc, th, C, ln, R, pt, ta, B, Z), rfl, rfl, hi, hj, hm, hl, RG_X h.1, cIfT (by omega) (cIfF (by omega) k)⟩)
  exact opD.ok (r := ii ((wFar N i m l W).2.2.1 j.toNat)) (R := R) (pt := pt) (ta := ta) (B := B) (Z := mPay M i m Z) (h.ways (wFar_ok h.1.2.1 (by omega) (by omega) h.2.2.2.2.2.2.2).1) (fun K KX k => ⟨(i, j, m, l, N, V, T, W, sc, os), rfl, rfl, hi, hj, hm, hl, h.1.2.1, h.2.2.2.2.2.2.2, cIfT c0 (cIfT c1 (cIfT c2 (cIfT c3 (k))))⟩) (fun K KX k => ⟨(i, j, m, l, M, P, sc, th, C, ln, R, pt, ta, B, Z), rfl, rfl, hi, hj, hm, hl, RG_X h.1, cIfT (by omega) (cIfT (by omega) ((by rw [wFar_eq h.1 c0 c2.1 c3.1 c3.2 h.2.2.2.2.2.2.2 Z c1] at k; exact k)))⟩)
theorem op_lastStart {g : gW} {N V : Nat → Int} {T : tFT} {W : tWY} {sc os : Int} {M P C : Nat → Int} {ln : Int} {R : Nat → Int} {pt ta th : Int} {B Z : Nat → Int} (h : INV N V T W sc os M P C ln) {i j l : Int} (hi : r32 i) (hj : r32 j) (hl : r32 l) : opD [xI, xA] g (sp_X3_lastStart g) (sp_X4_lastStart g) [.ref (gA g 20), .int (ii i), .int (ii j), .int (ii l)] [.ref (gA g 34), .int (ii i), .int (ii j), .int (ii l)] (wTF g N V T W sc os) (wMO g M P sc th C ln R pt ta B Z) := by
  have e0 := h.1.1.1
  have gw := h.1.2.1.1
  have gv := h.2.1
  by_cases c0 : 0 ≤ i ∧ i < 8
  case neg =>
    exact opD.no (r := ii 0) (R := R) (pt := pt) (ta := ta) (B := B) (Z := Z) 0 xI rfl h (fun K KX k => ⟨(i, j, l, N, V, T, W, sc, os), rfl, rfl, hi, hj, hl, h.1.2.1, cIfF c0 k⟩) (fun K KX k => ⟨(i, j, l, M, P, sc, th, C, ln, R, pt, ta, B, Z), rfl, rfl, hi, hj, hl, RG_X h.1, cIfF (by omega) k⟩)
  by_cases c1 : 0 ≤ j ∧ j < 8
  case neg =>
    exact opD.no (r := ii 0) (R := R) (pt := pt) (ta := ta) (B := B) (Z := Z) 0 xI rfl h (fun K KX k => ⟨(i, j, l, N, V, T, W, sc, os), rfl, rfl, hi, hj, hl, h.1.2.1, cIfT c0 (cIfF c1 k)⟩) (fun K KX k => ⟨(i, j, l, M, P, sc, th, C, ln, R, pt, ta, B, Z), rfl, rfl, hi, hj, hl, RG_X h.1, cIfF (by omega) k⟩)
  by_cases c2 : i ≠ j
  case neg =>
    exact opD.no (r := ii 0) (R := R) (pt := pt) (ta := ta) (B := B) (Z := Z) 1 xA rfl h (fun K KX k => ⟨(i, j, l, N, V, T, W, sc, os), rfl, rfl, hi, hj, hl, h.1.2.1, cIfT c0 (cIfT c1 (cIfF c2 k))⟩) (fun K KX k => ⟨(i, j, l, M, P, sc, th, C, ln, R, pt, ta, B, Z), rfl, rfl, hi, hj, hl, RG_X h.1, cIfT (by omega) (cIfF (by omega) k)⟩)
  by_cases c3 : 0 ≤ l ∧ l ≤ 1539
  case neg =>
    exact opD.no (r := ii 0) (R := R) (pt := pt) (ta := ta) (B := B) (Z := Z) 1 xA rfl h (fun K KX k => ⟨(i, j, l, N, V, T, W, sc, os), rfl, rfl, hi, hj, hl, h.1.2.1, cIfT c0 (cIfT c1 (cIfT c2 (cIfF c3 k)))⟩) (fun K KX k => ⟨(i, j, l, M, P, sc, th, C, ln, R, pt, ta, B, Z), rfl, rfl, hi, hj, hl, RG_X h.1, cIfT (by omega) (cIfF (by omega) k)⟩)
  exact opD.ok (r := ii (fStt N W.2.1 j l i.toNat)) (R := R) (pt := pt) (ta := ta) (B := lsF M j l B) (Z := Z) (h.ways (W' := (W.1, fStt N W.2.1 j l, W.2.2)) h.2.2.2.2.2.2.2) (fun K KX k => ⟨(i, j, l, N, V, T, W, sc, os), rfl, rfl, hi, hj, hl, h.1.2.1, cIfT c0 (cIfT c1 (cIfT c2 (cIfT c3 (k))))⟩) (fun K KX k => ⟨(i, j, l, M, P, sc, th, C, ln, R, pt, ta, B, Z), rfl, rfl, hi, hj, hl, RG_X h.1, cIfT (by omega) (cIfT (by omega) ((by rw [fStt_eq h.1 c1 c3 (B := B) (by omega)] at k; exact k)))⟩)
end OPS
