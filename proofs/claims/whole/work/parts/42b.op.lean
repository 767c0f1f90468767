section OPT
theorem why_0 {N : Nat → Int} {t f : Int} (h : why N t f = 0) : NL N f (N (3 + t * 5 + 1).toNat) ≠ -1 ∧ PR N f (NL N f (N (3 + t * 5 + 1).toNat)) ≤ (N (3 + t * 5 + 2).toNat) := by
  unfold why at h
  split at h
  · omega
  · split at h
    · omega
    · split at h
      · omega
      · exact ⟨by assumption, by omega⟩
theorem op_take {g : gW} {N V : Nat → Int} {T : tFT} {W : tWY} {sc os : Int} {M P C : Nat → Int} {ln : Int} {R : Nat → Int} {pt ta th : Int} {B Z : Nat → Int} (h : INV N V T W sc os M P C ln) {t f : Int} (ht : r32 t) (hf : r32 f) : opD [xI, xS] g (sp_X3_take g) (sp_X4_take g) [.ref (gA g 20), .int (ii t), .int (ii f)] [.ref (gA g 34), .int (ii t), .int (ii f)] (wTF g N V T W sc os) (wMO g M P sc th C ln R pt ta B Z) := by
  have e0 := h.1.1.1
  have gw := h.1.2.1.1
  have gv := h.2.1
  have gj : ∀ f : Int, 0 ≤ f → f < M 2 → okG M f ∧ okJ M f := fun f a b => RG_G h.1 a (by omega)
  by_cases c0 : 0 ≤ t ∧ t < 4
  case neg =>
    exact opD.no (r := ii 0) (R := R) (pt := pt) (ta := ta) (B := B) (Z := Z) 0 xI rfl h (fun K KX k => ⟨(t, f, N, V, T, W, sc, os), rfl, rfl, ht, hf, gv, h.1.2.2, h.1.2.1, cIfF c0 k⟩) (fun K KX k => ⟨(t, f, M, P, sc, th, C, ln, R, pt, ta, B, Z), rfl, rfl, ht, hf, by omega, RG_U h.1, gj, RG_T h.1, by omega, cIfF (by omega) k⟩)
  by_cases c1 : 0 ≤ f ∧ f < N 0
  case neg =>
    exact opD.no (r := ii 0) (R := R) (pt := pt) (ta := ta) (B := B) (Z := Z) 0 xI rfl h (fun K KX k => ⟨(t, f, N, V, T, W, sc, os), rfl, rfl, ht, hf, gv, h.1.2.2, h.1.2.1, cIfT c0 (cIfF c1 k)⟩) (fun K KX k => ⟨(t, f, M, P, sc, th, C, ln, R, pt, ta, B, Z), rfl, rfl, ht, hf, by omega, RG_U h.1, gj, RG_T h.1, by omega, cIfF (by omega) k⟩)
  have ew := RG_why h.1 c0.1 c0.2 c1.1 c1.2
  by_cases c2 : why N t f = 0
  case neg =>
    exact opD.no (r := ii 0) (R := R) (pt := pt) (ta := ta) (B := B) (Z := Z) 1 xS rfl h (fun K KX k => ⟨(t, f, N, V, T, W, sc, os), rfl, rfl, ht, hf, gv, h.1.2.2, h.1.2.1, cIfT c0 (cIfT c1 (cIfF c2 k))⟩) (fun K KX k => ⟨(t, f, M, P, sc, th, C, ln, R, pt, ta, B, Z), rfl, rfl, ht, hf, by omega, RG_U h.1, gj, RG_T h.1, by omega, cIfT (by omega) (cIfF (by rw [← ew]; exact c2) k)⟩)
  have e1 := h.1.1.2.2.2.1 t 1 c0.1 c0.2 (by omega) (by omega)
  have hT := h.1.2.2 t c0.1 c0.2
  obtain ⟨a1, a3⟩ := why_0 c2
  have w := h.1.2.1.2.2 f c1.1 c1.2
  have a2 := NL_in (m := (N (3 + t * 5 + 1).toNat)) w.1
  have a4 := PR_in (m := NL N f (N (3 + t * 5 + 1).toNat)) w.1
  have k0 := RG_carry h.1 c0 c1 (lv := NL N f (N (3 + t * 5 + 1).toNat)) (c := PR N f (NL N f (N (3 + t * 5 + 1).toNat))) (by omega) ⟨a4.2.1, a3⟩
  have k5 := k0.1.2.2.2.1 t 1 c0.1 c0.2 (by omega) (by omega)
  have e2 : mNL M f (M (129 + 5 * t + 1).toNat) = NL N f (N (3 + t * 5 + 1).toNat) := by rw [← e1]; exact (RG_NL h.1 c1.1 c1.2 hT.2.1.1).symm
  have e3 : mPR M f (NL N f (N (3 + t * 5 + 1).toNat)) = PR N f (NL N f (N (3 + t * 5 + 1).toNat)) := (RG_PR h.1 c1.1 c1.2).symm
  exact opD.ok (R := R) (pt := pt) (ta := ta) (B := B) (Z := Z) (h.chg k0) (fun K KX k => ⟨(t, f, N, V, T, W, sc, os), rfl, rfl, ht, hf, gv, h.1.2.2, h.1.2.1, cIfT c0 (cIfT c1 (cIfT c2 k))⟩) (fun K KX k => ⟨(t, f, M, P, sc, th, C, ln, R, pt, ta, B, Z), rfl, rfl, ht, hf, by omega, RG_U h.1, gj, RG_T h.1, by omega, cIfT (by omega) (cIfT (by rw [← ew]; exact c2) (by rw [e2, e3, ← k5]; exact k))⟩)
theorem okC_su {C : Nat → Int} {ln c : Int} (h : okC C ln) (hc : 33 ≤ c ∧ c ≤ 126) (hl : ln < 60) : okC (su C ln.toNat c) (ln + 1) := by
  obtain ⟨h1, h2⟩ := h
  refine ⟨by omega, fun k hk => ?_⟩
  unfold su
  by_cases q : k = ln.toNat
  · rw [if_pos q]; exact hc
  · rw [if_neg q]; exact h2 k (by omega)
theorem op_append {g : gW} {N V : Nat → Int} {T : tFT} {W : tWY} {sc os : Int} {M P C : Nat → Int} {ln : Int} {R : Nat → Int} {pt ta th : Int} {B Z : Nat → Int} (h : INV N V T W sc os M P C ln) {c : Int} (hc : r32 c) : opD [xA, xS] g (sp_X3_append g) (sp_X4_append g) [.ref (gA g 20), .int (ii c)] [.ref (gA g 34), .int (ii c)] (wTF g N V T W sc os) (wMO g M P sc th C ln R pt ta B Z) := by
  obtain ⟨h1, h2, h3, h4, h5, h6, h7, h8⟩ := id h
  have hl := h7.1
  by_cases c0 : 33 ≤ c ∧ c ≤ 126
  case neg =>
    exact opD.no (r := ii 0) (R := R) (pt := pt) (ta := ta) (B := B) (Z := Z) 0 xA rfl h (fun K KX k => ⟨(c, N, V, T, W, sc, os), rfl, rfl, hc, by omega, cIfF c0 k⟩) (fun K KX k => ⟨(c, M, P, sc, th, C, ln, R, pt, ta, B, Z), rfl, rfl, hc, by omega, cIfF c0 k⟩)
  by_cases c1 : T.2.2.1 < 60
  case neg =>
    exact opD.no (r := ii 0) (R := R) (pt := pt) (ta := ta) (B := B) (Z := Z) 1 xS rfl h (fun K KX k => ⟨(c, N, V, T, W, sc, os), rfl, rfl, hc, by omega, cIfT c0 (cIfF c1 k)⟩) (fun K KX k => ⟨(c, M, P, sc, th, C, ln, R, pt, ta, B, Z), rfl, rfl, hc, by omega, cIfT c0 (cIfF (by omega) k)⟩)
  refine opD.ok (R := R) (pt := pt) (ta := ta) (B := B) (Z := Z) (N := N) (V := V) (T := (su T.1 T.2.2.1.toNat c, T.2.1, T.2.2.1 + 1, T.2.2.2)) (W := W) (sc := sc) (os := os) (M := M) (P := P) (C := su C ln.toNat c) (ln := ln + 1) ⟨h1, h2, h3, ?_, ⟨okC_su h5.1 c0 c1, h5.2⟩, ?_, okC_su h7 c0 (by omega), h8⟩ (fun K KX k => ⟨(c, N, V, T, W, sc, os), rfl, rfl, hc, by omega, cIfT c0 (cIfT c1 k)⟩) (fun K KX k => ⟨(c, M, P, sc, th, C, ln, R, pt, ta, B, Z), rfl, rfl, hc, by omega, cIfT c0 (cIfT (by omega) (by rw [h4] at k; exact k))⟩)
  · show T.2.2.1 + 1 = ln + 1
    rw [h4]
  · show su T.1 T.2.2.1.toNat c = su C ln.toNat c
    rw [h4, h6]
theorem op_reach {g : gW} {N V : Nat → Int} {T : tFT} {W : tWY} {sc os : Int} {M P C : Nat → Int} {ln : Int} {R : Nat → Int} {pt ta th : Int} {B Z : Nat → Int} (h : INV N V T W sc os M P C ln) {t : Int} (ht : r32 t) : opD [xI] g (sp_X3_reach g) (sp_X4_reach g) [.ref (gA g 20), .int (ii t)] [.ref (gA g 34), .int (ii t)] (wTF g N V T W sc os) (wMO g M P sc th C ln R pt ta B Z) := by
  have h8 := h.2.2.2.2.2.2.2
  by_cases c0 : 0 ≤ t ∧ t < 4
  case neg =>
    exact opD.no (r := ii 0) (R := R) (pt := pt) (ta := ta) (B := B) (Z := Z) 0 xI rfl h (fun K KX k => ⟨(t, N, V, T, W, sc, os), rfl, rfl, ht, h.1.2.2, h.1.2.1, h8, cIfF c0 k⟩) (fun K KX k => ⟨(t, M, P, sc, th, C, ln, R, pt, ta, B, Z), rfl, rfl, ht, RG_T h.1, RG_X h.1, cIfF (by omega) k⟩)
  have e := fun j a b => h.1.1.2.2.2.1 t j c0.1 c0.2 a b
  have hT := h.1.2.2 t c0.1 c0.2
  have q := iwF_eq h.1 hT.1 hT.2.1 hT.2.2 h8 Z 8 0 (ii 0) rfl
  exact opD.ok (R := R) (pt := pt) (ta := ta) (B := B) (Z := mPay M (N (3 + t * 5 + 0).toNat) (N (3 + t * 5 + 1).toNat) Z) (h.ways (wFar_ok h.1.2.1 hT.2.1 (by omega) h8).1) (fun K KX k => ⟨(t, N, V, T, W, sc, os), rfl, rfl, ht, h.1.2.2, h.1.2.1, h8, cIfT c0 k⟩) (fun K KX k => ⟨(t, M, P, sc, th, C, ln, R, pt, ta, B, Z), rfl, rfl, ht, RG_T h.1, RG_X h.1, cIfT (by omega) (by rw [← e 0 (by omega) (by omega), ← e 1 (by omega) (by omega), ← e 2 (by omega) (by omega), ← q]; exact k)⟩)
/-- the text read: the class's own numbers keep their ranges -/
theorem okFr_rd {T : tFT} (h : okFr T) : okFr (rdT T) := by
  have hl := h.1.1
  have h2 := aRd_ok h.1.2 T.2.2.1.toNat 0 (keepU T.2.1 0 6 0) 0 0 T.2.2.2.2.2.1 (-1) (by omega) (by omega) (by omega) (by omega) h.2 (by omega)
  exact ⟨h.1, h2.2.2.2.1⟩
theorem INV.rd {N V : Nat → Int} {T : tFT} {W : tWY} {sc os : Int} {M P C : Nat → Int} {ln : Int} (h : INV N V T W sc os M P C ln) : INV N V (rdT T) W sc os M P C ln := by
  obtain ⟨h1, h2, h3, h4, h5, h6, h7, h8⟩ := h
  exact ⟨h1, h2, h3, h4, okFr_rd h5, h6, h7, h8⟩
theorem INV.cut {N V : Nat → Int} {T : tFT} {W : tWY} {sc os : Int} {M P C : Nat → Int} {ln : Int} (h : INV N V T W sc os M P C ln) : INV N V (T.1, T.2.1, 0, T.2.2.2) W sc os M P C 0 := by
  obtain ⟨h1, h2, h3, h4, h5, h6, h7, h8⟩ := h
  have q : ∀ D : Nat → Int, okC D 0 := fun D => ⟨⟨by omega, by omega⟩, fun k hk => by omega⟩
  exact ⟨h1, h2, h3, rfl, ⟨q T.1, h5.2⟩, h6, q C, h8⟩
theorem op_ferries {g : gW} {N V : Nat → Int} {T : tFT} {W : tWY} {sc os : Int} {M P C : Nat → Int} {ln : Int} {R : Nat → Int} {pt ta th : Int} {B Z : Nat → Int} (h : INV N V T W sc os M P C ln) : opD [xA, xS] g (sp_X3_ferries g) (sp_X4_ferries g) [.ref (gA g 20)] [.ref (gA g 34)] (wTF g N V T W sc os) (wMO g M P sc th C ln R pt ta B Z) := by
  have e0 := h.1.1.1
  have gw := h.1.2.1.1
  have gv := h.2.1
  obtain ⟨h1, h2, h3, rfl, h5, rfl, h7, h8⟩ := id h
  have hl := h7.1
  obtain ⟨r1, r2, r3⟩ := read_eq h7 T.2.1 R T.2.2.2.2.2.1
  have hp : aWh T.2.2.1 (aR0 T.1 T.2.1 T.2.2.1 T.2.2.2.2.2.1) → _ := aWh_pt h7 h5.2
  by_cases c0 : aWh T.2.2.1 (aR0 T.1 T.2.1 T.2.2.1 T.2.2.2.2.2.1)
  case neg =>
    exact opD.no (r := ii 0) (B := B) (Z := Z) 0 xA rfl h.rd (fun K KX k => ⟨(N, V, T, W, sc, os), rfl, rfl, gv, h5, gw, cIfF c0 k⟩) (fun K KX k => ⟨(M, P, sc, th, T.1, T.2.2.1, R, pt, ta, B, Z), rfl, rfl, by omega, by omega, h7, cIfF (fun q => c0 (r2.mpr q)) k⟩)
  have q0 := r2.mp c0
  obtain ⟨p1, p2⟩ := r3 q0
  have p3 := hp c0
  by_cases c1 : N 0 + ((rdT T).2.2.2.1 + 1) ≤ 14
  case neg =>
    exact opD.no (r := ii 0) (B := B) (Z := Z) 1 xS rfl h.rd (fun K KX k => ⟨(N, V, T, W, sc, os), rfl, rfl, gv, h5, gw, cIfT c0 (cIfF c1 k)⟩) (fun K KX k => ⟨(M, P, sc, th, T.1, T.2.2.1, R, pt, ta, B, Z), rfl, rfl, by omega, by omega, h7, cIfT (q0) (cIfF (by rw [p1, ← e0]; exact c1) k)⟩)
  have hrg := mC0_rg (C := T.1) (ln := T.2.2.1) (R := R) (by omega) q0 (by rw [p1]; omega)
  rw [p1] at hrg
  have c1' : N 0 + ((aR0 T.1 T.2.1 T.2.2.1 T.2.2.2.2.2.1).2.2.1 + 1) ≤ 14 := c1
  have k0 := RG_many p2 hrg ((aR0 T.1 T.2.1 T.2.2.1 T.2.2.2.2.2.1).2.2.1 + 1).toNat 0 N M h1 (by omega) (by omega) (by omega)
  have k5 := k0.1.1
  exact opD.ok (R := (mC0 T.1 T.2.2.1 R).2.2.1) (pt := (mC0 T.1 T.2.2.1 R).2.2.2) (ta := (mC0 T.1 T.2.2.1 R).2.1) (B := B) (Z := Z) (h.rd.cut.chg k0) (fun K KX k => ⟨(N, V, T, W, sc, os), rfl, rfl, gv, h5, gw, cIfT c0 (cIfT c1 k)⟩) (fun K KX k => ⟨(M, P, sc, th, T.1, T.2.2.1, R, pt, ta, B, Z), rfl, rfl, by omega, by omega, h7, cIfT (q0) (cIfT (by rw [p1, ← e0]; exact c1) (by rw [k5] at k; rw [p1] at k ⊢; exact k))⟩)
/-- what doesn't throw -/
def opP (g : gW) (spC spM : wSp) (wC wM : va_W) : Prop := ∃ (v : Value) (N V : Nat → Int) (T : tFT) (W : tWY) (sc os : Int) (M P C : Nat → Int) (ln th : Int) (R : Nat → Int) (pt ta : Int) (B Z : Nat → Int), INV N V T W sc os M P C ln ∧
  (∀ (K : wK) (KX : wX), K (some v) (wTF g N V T W sc os) → spC [.ref (gA g 20)] wC K KX) ∧ ∀ (K : wK) (KX : wX), K (some v) (wMO g M P sc th C ln R pt ta B Z) → spM [.ref (gA g 34)] wM K KX
theorem op_clearBuffer {g : gW} {N V : Nat → Int} {T : tFT} {W : tWY} {sc os : Int} {M P C : Nat → Int} {ln : Int} {R : Nat → Int} {pt ta th : Int} {B Z : Nat → Int} (h : INV N V T W sc os M P C ln) : opP g (sp_X3_clearBuffer g) (sp_X4_clearBuffer g) (wTF g N V T W sc os) (wMO g M P sc th C ln R pt ta B Z) :=
  ⟨.int (ii ln), N, V, (T.1, T.2.1, 0, T.2.2.2), W, sc, os, M, P, C, 0, 0, R, pt, ta, B, Z, h.cut, fun K KX k => ⟨(N, V, T, W, sc, os), rfl, rfl, by show K (some (.int (ii T.2.2.1))) _; rw [h.2.2.2.1]; exact k⟩, fun K KX k => ⟨(M, P, sc, th, C, ln, R, pt, ta, B, Z), rfl, rfl, k⟩⟩
theorem op_firstError {g : gW} {N V : Nat → Int} {T : tFT} {W : tWY} {sc os : Int} {M P C : Nat → Int} {ln : Int} {R : Nat → Int} {pt ta th : Int} {B Z : Nat → Int} (h : INV N V T W sc os M P C ln) : opP g (sp_X3_firstError g) (sp_X4_firstError g) (wTF g N V T W sc os) (wMO g M P sc th C ln R pt ta B Z) := by
  obtain ⟨h1, h2, h3, rfl, h5, rfl, h7, h8⟩ := id h
  have r1 := (read_eq h7 T.2.1 R T.2.2.2.2.2.1).1
  exact ⟨.int (ii (aR0 T.1 T.2.1 T.2.2.1 T.2.2.2.2.2.1).1), N, V, rdT T, W, sc, os, M, P, T.1, T.2.2.1, 0, (mC0 T.1 T.2.2.1 R).2.2.1, (mC0 T.1 T.2.2.1 R).2.2.2, (mC0 T.1 T.2.2.1 R).2.1, B, Z, h.rd, fun K KX k => ⟨(N, V, T, W, sc, os), rfl, rfl, h5, k⟩, fun K KX k => ⟨(M, P, sc, th, T.1, T.2.2.1, R, pt, ta, B, Z), rfl, rfl, h7, by rw [r1] at k; exact k⟩⟩
theorem op_joined {g : gW} {N V : Nat → Int} {T : tFT} {W : tWY} {sc os : Int} {M P C : Nat → Int} {ln : Int} {R : Nat → Int} {pt ta th : Int} {B Z : Nat → Int} (h : INV N V T W sc os M P C ln) : ∃ (x : Int) (W' : tWY) (B' : Nat → Int), INV N V T W' sc os M P C ln ∧
    (∀ (K : wK) (KX : wX), K (some (.double (shr x))) (wTF g N V T W' sc os) → sp_X3_joined g [.ref (gA g 20)] (wTF g N V T W sc os) K KX) ∧ ∀ (K : wK) (KX : wX), K (some (.double (shr x))) (wMO g M P sc 0 C ln R pt ta B' Z) → sp_X4_joined g [.ref (gA g 34)] (wMO g M P sc th C ln R pt ta B Z) K KX := by
  have e := jpO_eq h.1 8 0 W.1 B 0 (by omega) (by omega)
  exact ⟨_, _, _, h.ways (W' := ((jpO N 8 0 W.1 0).1, W.2)) h.2.2.2.2.2.2.2, fun K KX k => ⟨(N, V, T, W, sc, os), rfl, rfl, h.1.2.1, k⟩, fun K KX k => ⟨(M, P, sc, th, C, ln, R, pt, ta, B, Z), rfl, rfl, RG_X h.1, by rw [← e]; exact k⟩⟩
theorem op_digest {g : gW} {N V : Nat → Int} {T : tFT} {W : tWY} {sc os : Int} {M P C : Nat → Int} {ln : Int} {R : Nat → Int} {pt ta th : Int} {B Z : Nat → Int} (h : INV N V T W sc os M P C ln) : ∃ (x : Int64) (W' : tWY) (B' Z' : Nat → Int), INV N V T W' sc os M P C ln ∧
    (∀ (K : wK) (KX : wX), K (some (.long x)) (wTF g N V T W' sc os) → sp_X3_digest g [.ref (gA g 20)] (wTF g N V T W sc os) K KX) ∧ ∀ (K : wK) (KX : wX), K (some (.long x)) (wMO g M P sc 0 C ln R pt ta B' Z') → sp_X4_digest g [.ref (gA g 34)] (wMO g M P sc th C ln R pt ta B Z) K KX := by
  obtain ⟨h1, h2, h3, h4, h5, h6, h7, h8⟩ := id h
  obtain ⟨e, hw⟩ := dgO_eq h1 h8 (sc := sc) (T := T) (C := C) h7.1.1 h4 (fun k _ => by rw [h6]) B Z
  exact ⟨_, _, _, _, h.ways hw, fun K KX k => ⟨(N, V, T, W, sc, os), rfl, rfl, h1.2.1, h8, h1.2.2, by have q := h7.1; omega, k⟩, fun K KX k => ⟨(M, P, sc, th, C, ln, R, pt, ta, B, Z), rfl, rfl, RG_X h1, RG_T h1, h7.1, by unfold kBZ; rw [← e]; exact k⟩⟩
end OPT
