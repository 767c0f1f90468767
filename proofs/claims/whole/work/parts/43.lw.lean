section LWC
/-- a wrapper's answer against the model's -/
def opL (g : gW) (spL spM : wSp) (avL avM : List Value) (w1 wM : va_W) : Prop := ∃ (k : Nat) (r : Int32) (N V : Nat → Int) (T : tFT) (W : tWY) (sc os : Int) (M P C : Nat → Int) (ln : Int) (R : Nat → Int) (pt ta : Int) (B Z : Nat → Int), INV N V T W sc os M P C ln ∧ k ≤ 3 ∧
  (∀ KX : wX, spL avL w1 (fun v w' => v = some (.int (ii (k : Int))) ∧ ∃ o' : Nat → Int64, (k = 0 → o' 0 = r.toInt64) ∧ w' = cO g o' :: wTF g N V T W sc os) KX) ∧
  ∀ (K : wK) (KX : wX), K (some (.int r)) (wMO g M P sc (k : Int) C ln R pt ta B Z) → spM avM wM K KX
theorem vp_updL_0 {o : Nat → Int64} {x : Int64} : vp_updL o 0 x 0 = x := by simp [vp_updL]
theorem oL_ferry {g : gW} {spM : wSp} {avM : List Value} {wC wM : va_W} {p0 p1 p2 p3 p4 p5 : Int32} {o : Nat → Int64} (h : opD [xI, xA, xS] g (sp_X3_ferry g) spM [.ref (gA g 20), .int p0, .int p1, .int p2, .int p3, .int p4, .int p5] avM wC wM) : opL g (sp_L_ferry g) spM [.ref (gA g 20), .int p0, .int p1, .int p2, .int p3, .int p4, .int p5, .ref (gA g 41)] avM (cO g o :: wC) wM := by
  obtain ⟨k, r, N, V, T, W, sc, os, M, P, C, ln, R, pt, ta, B, Z, hI, hk, hc, hm⟩ := h
  refine ⟨k, r, N, V, T, W, sc, os, M, P, C, ln, R, pt, ta, B, Z, hI, Nat.le_trans hk (by decide), fun KX => ⟨p0, p1, p2, p3, p4, p5, wC, o, fun v w => v = some (.int r) ∧ k = 0 ∧ w = wTF g N V T W sc os, fun E w => k ≠ 0 ∧ [xI, xA, xS][k - 1]? = some E ∧ w = wTF g N V T W sc os, rfl, rfl, hc _ _ (fun h => ⟨rfl, h, rfl⟩) (fun E h1 h2 => ⟨h1, h2, rfl⟩), ?_, ?_⟩, hm⟩
  · rintro v w' ⟨rfl, rfl, rfl⟩
    exact ⟨r, rfl, rfl, _, fun _ => vp_updL_0, rfl⟩
  · rintro E w' ⟨h1, h2, rfl⟩
    match k, h1, h2 with
    | 0, h1, _ => exact absurd rfl h1
    | 1, _, h2 => cases h2; exact Or.inl (⟨rfl, rfl, o, fun q => absurd q (by decide), rfl⟩)
    | 2, _, h2 => cases h2; exact Or.inr (Or.inl (⟨rfl, rfl, o, fun q => absurd q (by decide), rfl⟩))
    | 3, _, h2 => cases h2; exact Or.inr (Or.inr (⟨rfl, rfl, o, fun q => absurd q (by decide), rfl⟩))
    | j + 4, _, h2 => simp at h2
theorem oL_drop {g : gW} {spM : wSp} {avM : List Value} {wC wM : va_W} {p0 : Int32} {o : Nat → Int64} (h : opD [xI] g (sp_X3_drop g) spM [.ref (gA g 20), .int p0] avM wC wM) : opL g (sp_L_drop g) spM [.ref (gA g 20), .int p0, .ref (gA g 41)] avM (cO g o :: wC) wM := by
  obtain ⟨k, r, N, V, T, W, sc, os, M, P, C, ln, R, pt, ta, B, Z, hI, hk, hc, hm⟩ := h
  refine ⟨k, r, N, V, T, W, sc, os, M, P, C, ln, R, pt, ta, B, Z, hI, Nat.le_trans hk (by decide), fun KX => ⟨p0, wC, o, fun v w => v = some (.int r) ∧ k = 0 ∧ w = wTF g N V T W sc os, fun E w => k ≠ 0 ∧ [xI][k - 1]? = some E ∧ w = wTF g N V T W sc os, rfl, rfl, hc _ _ (fun h => ⟨rfl, h, rfl⟩) (fun E h1 h2 => ⟨h1, h2, rfl⟩), ?_, ?_⟩, hm⟩
  · rintro v w' ⟨rfl, rfl, rfl⟩
    exact ⟨r, rfl, rfl, _, fun _ => vp_updL_0, rfl⟩
  · rintro E w' ⟨h1, h2, rfl⟩
    match k, h1, h2 with
    | 0, h1, _ => exact absurd rfl h1
    | 1, _, h2 => cases h2; exact ⟨rfl, rfl, o, fun q => absurd q (by decide), rfl⟩
    | j + 2, _, h2 => simp at h2
theorem oL_kind {g : gW} {spM : wSp} {avM : List Value} {wC wM : va_W} {p0 p1 : Int32} {o : Nat → Int64} (h : opD [xI, xA] g (sp_X3_kind g) spM [.ref (gA g 20), .int p0, .int p1] avM wC wM) : opL g (sp_L_kind g) spM [.ref (gA g 20), .int p0, .int p1, .ref (gA g 41)] avM (cO g o :: wC) wM := by
  obtain ⟨k, r, N, V, T, W, sc, os, M, P, C, ln, R, pt, ta, B, Z, hI, hk, hc, hm⟩ := h
  refine ⟨k, r, N, V, T, W, sc, os, M, P, C, ln, R, pt, ta, B, Z, hI, Nat.le_trans hk (by decide), fun KX => ⟨p0, p1, wC, o, fun v w => v = some (.int r) ∧ k = 0 ∧ w = wTF g N V T W sc os, fun E w => k ≠ 0 ∧ [xI, xA][k - 1]? = some E ∧ w = wTF g N V T W sc os, rfl, rfl, hc _ _ (fun h => ⟨rfl, h, rfl⟩) (fun E h1 h2 => ⟨h1, h2, rfl⟩), ?_, ?_⟩, hm⟩
  · rintro v w' ⟨rfl, rfl, rfl⟩
    exact ⟨r, rfl, rfl, _, fun _ => vp_updL_0, rfl⟩
  · rintro E w' ⟨h1, h2, rfl⟩
    match k, h1, h2 with
    | 0, h1, _ => exact absurd rfl h1
    | 1, _, h2 => cases h2; exact Or.inl (⟨rfl, rfl, o, fun q => absurd q (by decide), rfl⟩)
    | 2, _, h2 => cases h2; exact Or.inr (⟨rfl, rfl, o, fun q => absurd q (by decide), rfl⟩)
    | j + 3, _, h2 => simp at h2
theorem oL_clock {g : gW} {spM : wSp} {avM : List Value} {wC wM : va_W} {p0 p1 : Int32} {o : Nat → Int64} (h : opD [xI, xA] g (sp_X3_clock g) spM [.ref (gA g 20), .int p0, .int p1] avM wC wM) : opL g (sp_L_clock g) spM [.ref (gA g 20), .int p0, .int p1, .ref (gA g 41)] avM (cO g o :: wC) wM := by
  obtain ⟨k, r, N, V, T, W, sc, os, M, P, C, ln, R, pt, ta, B, Z, hI, hk, hc, hm⟩ := h
  refine ⟨k, r, N, V, T, W, sc, os, M, P, C, ln, R, pt, ta, B, Z, hI, Nat.le_trans hk (by decide), fun KX => ⟨p0, p1, wC, o, fun v w => v = some (.int r) ∧ k = 0 ∧ w = wTF g N V T W sc os, fun E w => k ≠ 0 ∧ [xI, xA][k - 1]? = some E ∧ w = wTF g N V T W sc os, rfl, rfl, hc _ _ (fun h => ⟨rfl, h, rfl⟩) (fun E h1 h2 => ⟨h1, h2, rfl⟩), ?_, ?_⟩, hm⟩
  · rintro v w' ⟨rfl, rfl, rfl⟩
    exact ⟨r, rfl, rfl, _, fun _ => vp_updL_0, rfl⟩
  · rintro E w' ⟨h1, h2, rfl⟩
    match k, h1, h2 with
    | 0, h1, _ => exact absurd rfl h1
    | 1, _, h2 => cases h2; exact Or.inl (⟨rfl, rfl, o, fun q => absurd q (by decide), rfl⟩)
    | 2, _, h2 => cases h2; exact Or.inr (⟨rfl, rfl, o, fun q => absurd q (by decide), rfl⟩)
    | j + 3, _, h2 => simp at h2
theorem oL_set {g : gW} {spM : wSp} {avM : List Value} {wC wM : va_W} {p0 p1 : Int32} {o : Nat → Int64} (h : opD [xI, xA] g (sp_X3_set g) spM [.ref (gA g 20), .int p0, .int p1] avM wC wM) : opL g (sp_L_set g) spM [.ref (gA g 20), .int p0, .int p1, .ref (gA g 41)] avM (cO g o :: wC) wM := by
  obtain ⟨k, r, N, V, T, W, sc, os, M, P, C, ln, R, pt, ta, B, Z, hI, hk, hc, hm⟩ := h
  refine ⟨k, r, N, V, T, W, sc, os, M, P, C, ln, R, pt, ta, B, Z, hI, Nat.le_trans hk (by decide), fun KX => ⟨p0, p1, wC, o, fun v w => v = some (.int r) ∧ k = 0 ∧ w = wTF g N V T W sc os, fun E w => k ≠ 0 ∧ [xI, xA][k - 1]? = some E ∧ w = wTF g N V T W sc os, rfl, rfl, hc _ _ (fun h => ⟨rfl, h, rfl⟩) (fun E h1 h2 => ⟨h1, h2, rfl⟩), ?_, ?_⟩, hm⟩
  · rintro v w' ⟨rfl, rfl, rfl⟩
    exact ⟨r, rfl, rfl, _, fun _ => vp_updL_0, rfl⟩
  · rintro E w' ⟨h1, h2, rfl⟩
    match k, h1, h2 with
    | 0, h1, _ => exact absurd rfl h1
    | 1, _, h2 => cases h2; exact Or.inl (⟨rfl, rfl, o, fun q => absurd q (by decide), rfl⟩)
    | 2, _, h2 => cases h2; exact Or.inr (⟨rfl, rfl, o, fun q => absurd q (by decide), rfl⟩)
    | j + 3, _, h2 => simp at h2
theorem oL_place {g : gW} {spM : wSp} {avM : List Value} {wC wM : va_W} {p0 p1 p2 p3 : Int32} {o : Nat → Int64} (h : opD [xI, xA] g (sp_X3_place g) spM [.ref (gA g 20), .int p0, .int p1, .int p2, .int p3] avM wC wM) : opL g (sp_L_place g) spM [.ref (gA g 20), .int p0, .int p1, .int p2, .int p3, .ref (gA g 41)] avM (cO g o :: wC) wM := by
  obtain ⟨k, r, N, V, T, W, sc, os, M, P, C, ln, R, pt, ta, B, Z, hI, hk, hc, hm⟩ := h
  refine ⟨k, r, N, V, T, W, sc, os, M, P, C, ln, R, pt, ta, B, Z, hI, Nat.le_trans hk (by decide), fun KX => ⟨p0, p1, p2, p3, wC, o, fun v w => v = some (.int r) ∧ k = 0 ∧ w = wTF g N V T W sc os, fun E w => k ≠ 0 ∧ [xI, xA][k - 1]? = some E ∧ w = wTF g N V T W sc os, rfl, rfl, hc _ _ (fun h => ⟨rfl, h, rfl⟩) (fun E h1 h2 => ⟨h1, h2, rfl⟩), ?_, ?_⟩, hm⟩
  · rintro v w' ⟨rfl, rfl, rfl⟩
    exact ⟨r, rfl, rfl, _, fun _ => vp_updL_0, rfl⟩
  · rintro E w' ⟨h1, h2, rfl⟩
    match k, h1, h2 with
    | 0, h1, _ => exact absurd rfl h1
    | 1, _, h2 => cases h2; exact Or.inl (⟨rfl, rfl, o, fun q => absurd q (by decide), rfl⟩)
    | 2, _, h2 => cases h2; exact Or.inr (⟨rfl, rfl, o, fun q => absurd q (by decide), rfl⟩)
    | j + 3, _, h2 => simp at h2
theorem oL_rest {g : gW} {spM : wSp} {avM : List Value} {wC wM : va_W} {p0 p1 : Int32} {o : Nat → Int64} (h : opD [xI, xA, xS] g (sp_X3_rest g) spM [.ref (gA g 20), .int p0, .int p1] avM wC wM) : opL g (sp_L_rest g) spM [.ref (gA g 20), .int p0, .int p1, .ref (gA g 41)] avM (cO g o :: wC) wM := by
  obtain ⟨k, r, N, V, T, W, sc, os, M, P, C, ln, R, pt, ta, B, Z, hI, hk, hc, hm⟩ := h
  refine ⟨k, r, N, V, T, W, sc, os, M, P, C, ln, R, pt, ta, B, Z, hI, Nat.le_trans hk (by decide), fun KX => ⟨p0, p1, wC, o, fun v w => v = some (.int r) ∧ k = 0 ∧ w = wTF g N V T W sc os, fun E w => k ≠ 0 ∧ [xI, xA, xS][k - 1]? = some E ∧ w = wTF g N V T W sc os, rfl, rfl, hc _ _ (fun h => ⟨rfl, h, rfl⟩) (fun E h1 h2 => ⟨h1, h2, rfl⟩), ?_, ?_⟩, hm⟩
  · rintro v w' ⟨rfl, rfl, rfl⟩
    exact ⟨r, rfl, rfl, _, fun _ => vp_updL_0, rfl⟩
  · rintro E w' ⟨h1, h2, rfl⟩
    match k, h1, h2 with
    | 0, h1, _ => exact absurd rfl h1
    | 1, _, h2 => cases h2; exact Or.inl (⟨rfl, rfl, o, fun q => absurd q (by decide), rfl⟩)
    | 2, _, h2 => cases h2; exact Or.inr (Or.inl (⟨rfl, rfl, o, fun q => absurd q (by decide), rfl⟩))
    | 3, _, h2 => cases h2; exact Or.inr (Or.inr (⟨rfl, rfl, o, fun q => absurd q (by decide), rfl⟩))
    | j + 4, _, h2 => simp at h2
theorem oL_take {g : gW} {spM : wSp} {avM : List Value} {wC wM : va_W} {p0 p1 : Int32} {o : Nat → Int64} (h : opD [xI, xS] g (sp_X3_take g) spM [.ref (gA g 20), .int p0, .int p1] avM wC wM) : opL g (sp_L_take g) spM [.ref (gA g 20), .int p0, .int p1, .ref (gA g 41)] avM (cO g o :: wC) wM := by
  obtain ⟨k, r, N, V, T, W, sc, os, M, P, C, ln, R, pt, ta, B, Z, hI, hk, hc, hm⟩ := h
  refine ⟨k, r, N, V, T, W, sc, os, M, P, C, ln, R, pt, ta, B, Z, hI, Nat.le_trans hk (by decide), fun KX => ⟨p0, p1, wC, o, fun v w => v = some (.int r) ∧ k = 0 ∧ w = wTF g N V T W sc os, fun E w => k ≠ 0 ∧ [xI, xS][k - 1]? = some E ∧ w = wTF g N V T W sc os, rfl, rfl, hc _ _ (fun h => ⟨rfl, h, rfl⟩) (fun E h1 h2 => ⟨h1, h2, rfl⟩), ?_, ?_⟩, hm⟩
  · rintro v w' ⟨rfl, rfl, rfl⟩
    exact ⟨r, rfl, rfl, _, fun _ => vp_updL_0, rfl⟩
  · rintro E w' ⟨h1, h2, rfl⟩
    match k, h1, h2 with
    | 0, h1, _ => exact absurd rfl h1
    | 1, _, h2 => cases h2; exact Or.inl (⟨rfl, rfl, o, fun q => absurd q (by decide), rfl⟩)
    | 2, _, h2 => cases h2; exact Or.inr (⟨rfl, rfl, o, fun q => absurd q (by decide), rfl⟩)
    | j + 3, _, h2 => simp at h2
theorem oL_append {g : gW} {spM : wSp} {avM : List Value} {wC wM : va_W} {p0 : Int32} {o : Nat → Int64} (h : opD [xA, xS] g (sp_X3_append g) spM [.ref (gA g 20), .int p0] avM wC wM) : opL g (sp_L_append g) spM [.ref (gA g 20), .int p0, .ref (gA g 41)] avM (cO g o :: wC) wM := by
  obtain ⟨k, r, N, V, T, W, sc, os, M, P, C, ln, R, pt, ta, B, Z, hI, hk, hc, hm⟩ := h
  refine ⟨k, r, N, V, T, W, sc, os, M, P, C, ln, R, pt, ta, B, Z, hI, Nat.le_trans hk (by decide), fun KX => ⟨p0, wC, o, fun v w => v = some (.int r) ∧ k = 0 ∧ w = wTF g N V T W sc os, fun E w => k ≠ 0 ∧ [xA, xS][k - 1]? = some E ∧ w = wTF g N V T W sc os, rfl, rfl, hc _ _ (fun h => ⟨rfl, h, rfl⟩) (fun E h1 h2 => ⟨h1, h2, rfl⟩), ?_, ?_⟩, hm⟩
  · rintro v w' ⟨rfl, rfl, rfl⟩
    exact ⟨r, rfl, rfl, _, fun _ => vp_updL_0, rfl⟩
  · rintro E w' ⟨h1, h2, rfl⟩
    match k, h1, h2 with
    | 0, h1, _ => exact absurd rfl h1
    | 1, _, h2 => cases h2; exact Or.inl (⟨rfl, rfl, o, fun q => absurd q (by decide), rfl⟩)
    | 2, _, h2 => cases h2; exact Or.inr (⟨rfl, rfl, o, fun q => absurd q (by decide), rfl⟩)
    | j + 3, _, h2 => simp at h2
theorem oL_ferries {g : gW} {spM : wSp} {avM : List Value} {wC wM : va_W} {o : Nat → Int64} (h : opD [xA, xS] g (sp_X3_ferries g) spM [.ref (gA g 20)] avM wC wM) : opL g (sp_L_ferries g) spM [.ref (gA g 20), .ref (gA g 41)] avM (cO g o :: wC) wM := by
  obtain ⟨k, r, N, V, T, W, sc, os, M, P, C, ln, R, pt, ta, B, Z, hI, hk, hc, hm⟩ := h
  refine ⟨k, r, N, V, T, W, sc, os, M, P, C, ln, R, pt, ta, B, Z, hI, Nat.le_trans hk (by decide), fun KX => ⟨wC, o, fun v w => v = some (.int r) ∧ k = 0 ∧ w = wTF g N V T W sc os, fun E w => k ≠ 0 ∧ [xA, xS][k - 1]? = some E ∧ w = wTF g N V T W sc os, rfl, rfl, hc _ _ (fun h => ⟨rfl, h, rfl⟩) (fun E h1 h2 => ⟨h1, h2, rfl⟩), ?_, ?_⟩, hm⟩
  · rintro v w' ⟨rfl, rfl, rfl⟩
    exact ⟨r, rfl, rfl, _, fun _ => vp_updL_0, rfl⟩
  · rintro E w' ⟨h1, h2, rfl⟩
    match k, h1, h2 with
    | 0, h1, _ => exact absurd rfl h1
    | 1, _, h2 => cases h2; exact Or.inl (⟨rfl, rfl, o, fun q => absurd q (by decide), rfl⟩)
    | 2, _, h2 => cases h2; exact Or.inr (⟨rfl, rfl, o, fun q => absurd q (by decide), rfl⟩)
    | j + 3, _, h2 => simp at h2
theorem oL_undo {g : gW} {spM : wSp} {avM : List Value} {wC wM : va_W} {o : Nat → Int64} (h : opD [xS] g (sp_X3_undo g) spM [.ref (gA g 20)] avM wC wM) : opL g (sp_L_undo g) spM [.ref (gA g 20), .ref (gA g 41)] avM (cO g o :: wC) wM := by
  obtain ⟨k, r, N, V, T, W, sc, os, M, P, C, ln, R, pt, ta, B, Z, hI, hk, hc, hm⟩ := h
  refine ⟨k, r, N, V, T, W, sc, os, M, P, C, ln, R, pt, ta, B, Z, hI, Nat.le_trans hk (by decide), fun KX => ⟨wC, o, fun v w => v = some (.int r) ∧ k = 0 ∧ w = wTF g N V T W sc os, fun E w => k ≠ 0 ∧ [xS][k - 1]? = some E ∧ w = wTF g N V T W sc os, rfl, rfl, hc _ _ (fun h => ⟨rfl, h, rfl⟩) (fun E h1 h2 => ⟨h1, h2, rfl⟩), ?_, ?_⟩, hm⟩
  · rintro v w' ⟨rfl, rfl, rfl⟩
    exact ⟨r, rfl, rfl, _, fun _ => vp_updL_0, rfl⟩
  · rintro E w' ⟨h1, h2, rfl⟩
    match k, h1, h2 with
    | 0, h1, _ => exact absurd rfl h1
    | 1, _, h2 => cases h2; exact ⟨rfl, rfl, o, fun q => absurd q (by decide), rfl⟩
    | j + 2, _, h2 => simp at h2
theorem oL_ferryOf {g : gW} {spM : wSp} {avM : List Value} {wC wM : va_W} {p0 p1 : Int32} {o : Nat → Int64} (h : opD [xI, xA] g (sp_X3_ferryOf g) spM [.ref (gA g 20), .int p0, .int p1] avM wC wM) : opL g (sp_L_ferryOf g) spM [.ref (gA g 20), .int p0, .int p1, .ref (gA g 41)] avM (cO g o :: wC) wM := by
  obtain ⟨k, r, N, V, T, W, sc, os, M, P, C, ln, R, pt, ta, B, Z, hI, hk, hc, hm⟩ := h
  refine ⟨k, r, N, V, T, W, sc, os, M, P, C, ln, R, pt, ta, B, Z, hI, Nat.le_trans hk (by decide), fun KX => ⟨p0, p1, wC, o, fun v w => v = some (.int r) ∧ k = 0 ∧ w = wTF g N V T W sc os, fun E w => k ≠ 0 ∧ [xI, xA][k - 1]? = some E ∧ w = wTF g N V T W sc os, rfl, rfl, hc _ _ (fun h => ⟨rfl, h, rfl⟩) (fun E h1 h2 => ⟨h1, h2, rfl⟩), ?_, ?_⟩, hm⟩
  · rintro v w' ⟨rfl, rfl, rfl⟩
    exact ⟨r, rfl, rfl, _, fun _ => vp_updL_0, rfl⟩
  · rintro E w' ⟨h1, h2, rfl⟩
    match k, h1, h2 with
    | 0, h1, _ => exact absurd rfl h1
    | 1, _, h2 => cases h2; exact Or.inl (⟨rfl, rfl, o, fun q => absurd q (by decide), rfl⟩)
    | 2, _, h2 => cases h2; exact Or.inr (⟨rfl, rfl, o, fun q => absurd q (by decide), rfl⟩)
    | j + 3, _, h2 => simp at h2
theorem oL_traveller {g : gW} {spM : wSp} {avM : List Value} {wC wM : va_W} {p0 p1 : Int32} {o : Nat → Int64} (h : opD [xI, xA] g (sp_X3_traveller g) spM [.ref (gA g 20), .int p0, .int p1] avM wC wM) : opL g (sp_L_traveller g) spM [.ref (gA g 20), .int p0, .int p1, .ref (gA g 41)] avM (cO g o :: wC) wM := by
  obtain ⟨k, r, N, V, T, W, sc, os, M, P, C, ln, R, pt, ta, B, Z, hI, hk, hc, hm⟩ := h
  refine ⟨k, r, N, V, T, W, sc, os, M, P, C, ln, R, pt, ta, B, Z, hI, Nat.le_trans hk (by decide), fun KX => ⟨p0, p1, wC, o, fun v w => v = some (.int r) ∧ k = 0 ∧ w = wTF g N V T W sc os, fun E w => k ≠ 0 ∧ [xI, xA][k - 1]? = some E ∧ w = wTF g N V T W sc os, rfl, rfl, hc _ _ (fun h => ⟨rfl, h, rfl⟩) (fun E h1 h2 => ⟨h1, h2, rfl⟩), ?_, ?_⟩, hm⟩
  · rintro v w' ⟨rfl, rfl, rfl⟩
    exact ⟨r, rfl, rfl, _, fun _ => vp_updL_0, rfl⟩
  · rintro E w' ⟨h1, h2, rfl⟩
    match k, h1, h2 with
    | 0, h1, _ => exact absurd rfl h1
    | 1, _, h2 => cases h2; exact Or.inl (⟨rfl, rfl, o, fun q => absurd q (by decide), rfl⟩)
    | 2, _, h2 => cases h2; exact Or.inr (⟨rfl, rfl, o, fun q => absurd q (by decide), rfl⟩)
    | j + 3, _, h2 => simp at h2
theorem oL_leaves {g : gW} {spM : wSp} {avM : List Value} {wC wM : va_W} {p0 p1 : Int32} {o : Nat → Int64} (h : opD [xI, xA] g (sp_X3_leaves g) spM [.ref (gA g 20), .int p0, .int p1] avM wC wM) : opL g (sp_L_leaves g) spM [.ref (gA g 20), .int p0, .int p1, .ref (gA g 41)] avM (cO g o :: wC) wM := by
  obtain ⟨k, r, N, V, T, W, sc, os, M, P, C, ln, R, pt, ta, B, Z, hI, hk, hc, hm⟩ := h
  refine ⟨k, r, N, V, T, W, sc, os, M, P, C, ln, R, pt, ta, B, Z, hI, Nat.le_trans hk (by decide), fun KX => ⟨p0, p1, wC, o, fun v w => v = some (.int r) ∧ k = 0 ∧ w = wTF g N V T W sc os, fun E w => k ≠ 0 ∧ [xI, xA][k - 1]? = some E ∧ w = wTF g N V T W sc os, rfl, rfl, hc _ _ (fun h => ⟨rfl, h, rfl⟩) (fun E h1 h2 => ⟨h1, h2, rfl⟩), ?_, ?_⟩, hm⟩
  · rintro v w' ⟨rfl, rfl, rfl⟩
    exact ⟨r, rfl, rfl, _, fun _ => vp_updL_0, rfl⟩
  · rintro E w' ⟨h1, h2, rfl⟩
    match k, h1, h2 with
    | 0, h1, _ => exact absurd rfl h1
    | 1, _, h2 => cases h2; exact Or.inl (⟨rfl, rfl, o, fun q => absurd q (by decide), rfl⟩)
    | 2, _, h2 => cases h2; exact Or.inr (⟨rfl, rfl, o, fun q => absurd q (by decide), rfl⟩)
    | j + 3, _, h2 => simp at h2
theorem oL_costs {g : gW} {spM : wSp} {avM : List Value} {wC wM : va_W} {p0 p1 : Int32} {o : Nat → Int64} (h : opD [xI, xA] g (sp_X3_costs g) spM [.ref (gA g 20), .int p0, .int p1] avM wC wM) : opL g (sp_L_costs g) spM [.ref (gA g 20), .int p0, .int p1, .ref (gA g 41)] avM (cO g o :: wC) wM := by
  obtain ⟨k, r, N, V, T, W, sc, os, M, P, C, ln, R, pt, ta, B, Z, hI, hk, hc, hm⟩ := h
  refine ⟨k, r, N, V, T, W, sc, os, M, P, C, ln, R, pt, ta, B, Z, hI, Nat.le_trans hk (by decide), fun KX => ⟨p0, p1, wC, o, fun v w => v = some (.int r) ∧ k = 0 ∧ w = wTF g N V T W sc os, fun E w => k ≠ 0 ∧ [xI, xA][k - 1]? = some E ∧ w = wTF g N V T W sc os, rfl, rfl, hc _ _ (fun h => ⟨rfl, h, rfl⟩) (fun E h1 h2 => ⟨h1, h2, rfl⟩), ?_, ?_⟩, hm⟩
  · rintro v w' ⟨rfl, rfl, rfl⟩
    exact ⟨r, rfl, rfl, _, fun _ => vp_updL_0, rfl⟩
  · rintro E w' ⟨h1, h2, rfl⟩
    match k, h1, h2 with
    | 0, h1, _ => exact absurd rfl h1
    | 1, _, h2 => cases h2; exact Or.inl (⟨rfl, rfl, o, fun q => absurd q (by decide), rfl⟩)
    | 2, _, h2 => cases h2; exact Or.inr (⟨rfl, rfl, o, fun q => absurd q (by decide), rfl⟩)
    | j + 3, _, h2 => simp at h2
theorem oL_count {g : gW} {spM : wSp} {avM : List Value} {wC wM : va_W} {p0 : Int32} {o : Nat → Int64} (h : opD [xA] g (sp_X3_count g) spM [.ref (gA g 20), .int p0] avM wC wM) : opL g (sp_L_count g) spM [.ref (gA g 20), .int p0, .ref (gA g 41)] avM (cO g o :: wC) wM := by
  obtain ⟨k, r, N, V, T, W, sc, os, M, P, C, ln, R, pt, ta, B, Z, hI, hk, hc, hm⟩ := h
  refine ⟨k, r, N, V, T, W, sc, os, M, P, C, ln, R, pt, ta, B, Z, hI, Nat.le_trans hk (by decide), fun KX => ⟨p0, wC, o, fun v w => v = some (.int r) ∧ k = 0 ∧ w = wTF g N V T W sc os, fun E w => k ≠ 0 ∧ [xA][k - 1]? = some E ∧ w = wTF g N V T W sc os, rfl, rfl, hc _ _ (fun h => ⟨rfl, h, rfl⟩) (fun E h1 h2 => ⟨h1, h2, rfl⟩), ?_, ?_⟩, hm⟩
  · rintro v w' ⟨rfl, rfl, rfl⟩
    exact ⟨r, rfl, rfl, _, fun _ => vp_updL_0, rfl⟩
  · rintro E w' ⟨h1, h2, rfl⟩
    match k, h1, h2 with
    | 0, h1, _ => exact absurd rfl h1
    | 1, _, h2 => cases h2; exact ⟨rfl, rfl, o, fun q => absurd q (by decide), rfl⟩
    | j + 2, _, h2 => simp at h2
theorem oL_setting {g : gW} {spM : wSp} {avM : List Value} {wC wM : va_W} {p0 : Int32} {o : Nat → Int64} (h : opD [xI] g (sp_X3_setting g) spM [.ref (gA g 20), .int p0] avM wC wM) : opL g (sp_L_setting g) spM [.ref (gA g 20), .int p0, .ref (gA g 41)] avM (cO g o :: wC) wM := by
  obtain ⟨k, r, N, V, T, W, sc, os, M, P, C, ln, R, pt, ta, B, Z, hI, hk, hc, hm⟩ := h
  refine ⟨k, r, N, V, T, W, sc, os, M, P, C, ln, R, pt, ta, B, Z, hI, Nat.le_trans hk (by decide), fun KX => ⟨p0, wC, o, fun v w => v = some (.int r) ∧ k = 0 ∧ w = wTF g N V T W sc os, fun E w => k ≠ 0 ∧ [xI][k - 1]? = some E ∧ w = wTF g N V T W sc os, rfl, rfl, hc _ _ (fun h => ⟨rfl, h, rfl⟩) (fun E h1 h2 => ⟨h1, h2, rfl⟩), ?_, ?_⟩, hm⟩
  · rintro v w' ⟨rfl, rfl, rfl⟩
    exact ⟨r, rfl, rfl, _, fun _ => vp_updL_0, rfl⟩
  · rintro E w' ⟨h1, h2, rfl⟩
    match k, h1, h2 with
    | 0, h1, _ => exact absurd rfl h1
    | 1, _, h2 => cases h2; exact ⟨rfl, rfl, o, fun q => absurd q (by decide), rfl⟩
    | j + 2, _, h2 => simp at h2
theorem oL_refusal {g : gW} {spM : wSp} {avM : List Value} {wC wM : va_W} {p0 p1 : Int32} {o : Nat → Int64} (h : opD [xI] g (sp_X3_refusal g) spM [.ref (gA g 20), .int p0, .int p1] avM wC wM) : opL g (sp_L_refusal g) spM [.ref (gA g 20), .int p0, .int p1, .ref (gA g 41)] avM (cO g o :: wC) wM := by
  obtain ⟨k, r, N, V, T, W, sc, os, M, P, C, ln, R, pt, ta, B, Z, hI, hk, hc, hm⟩ := h
  refine ⟨k, r, N, V, T, W, sc, os, M, P, C, ln, R, pt, ta, B, Z, hI, Nat.le_trans hk (by decide), fun KX => ⟨p0, p1, wC, o, fun v w => v = some (.int r) ∧ k = 0 ∧ w = wTF g N V T W sc os, fun E w => k ≠ 0 ∧ [xI][k - 1]? = some E ∧ w = wTF g N V T W sc os, rfl, rfl, hc _ _ (fun h => ⟨rfl, h, rfl⟩) (fun E h1 h2 => ⟨h1, h2, rfl⟩), ?_, ?_⟩, hm⟩
  · rintro v w' ⟨rfl, rfl, rfl⟩
    exact ⟨r, rfl, rfl, _, fun _ => vp_updL_0, rfl⟩
  · rintro E w' ⟨h1, h2, rfl⟩
    match k, h1, h2 with
    | 0, h1, _ => exact absurd rfl h1
    | 1, _, h2 => cases h2; exact ⟨rfl, rfl, o, fun q => absurd q (by decide), rfl⟩
    | j + 2, _, h2 => simp at h2
theorem oL_soonest {g : gW} {spM : wSp} {avM : List Value} {wC wM : va_W} {p0 p1 p2 : Int32} {o : Nat → Int64} (h : opD [xI, xA] g (sp_X3_soonest g) spM [.ref (gA g 20), .int p0, .int p1, .int p2] avM wC wM) : opL g (sp_L_soonest g) spM [.ref (gA g 20), .int p0, .int p1, .int p2, .ref (gA g 41)] avM (cO g o :: wC) wM := by
  obtain ⟨k, r, N, V, T, W, sc, os, M, P, C, ln, R, pt, ta, B, Z, hI, hk, hc, hm⟩ := h
  refine ⟨k, r, N, V, T, W, sc, os, M, P, C, ln, R, pt, ta, B, Z, hI, Nat.le_trans hk (by decide), fun KX => ⟨p0, p1, p2, wC, o, fun v w => v = some (.int r) ∧ k = 0 ∧ w = wTF g N V T W sc os, fun E w => k ≠ 0 ∧ [xI, xA][k - 1]? = some E ∧ w = wTF g N V T W sc os, rfl, rfl, hc _ _ (fun h => ⟨rfl, h, rfl⟩) (fun E h1 h2 => ⟨h1, h2, rfl⟩), ?_, ?_⟩, hm⟩
  · rintro v w' ⟨rfl, rfl, rfl⟩
    exact ⟨r, rfl, rfl, _, fun _ => vp_updL_0, rfl⟩
  · rintro E w' ⟨h1, h2, rfl⟩
    match k, h1, h2 with
    | 0, h1, _ => exact absurd rfl h1
    | 1, _, h2 => cases h2; exact Or.inl (⟨rfl, rfl, o, fun q => absurd q (by decide), rfl⟩)
    | 2, _, h2 => cases h2; exact Or.inr (⟨rfl, rfl, o, fun q => absurd q (by decide), rfl⟩)
    | j + 3, _, h2 => simp at h2
theorem oL_cheapest {g : gW} {spM : wSp} {avM : List Value} {wC wM : va_W} {p0 p1 p2 p3 : Int32} {o : Nat → Int64} (h : opD [xI, xA] g (sp_X3_cheapest g) spM [.ref (gA g 20), .int p0, .int p1, .int p2, .int p3] avM wC wM) : opL g (sp_L_cheapest g) spM [.ref (gA g 20), .int p0, .int p1, .int p2, .int p3, .ref (gA g 41)] avM (cO g o :: wC) wM := by
  obtain ⟨k, r, N, V, T, W, sc, os, M, P, C, ln, R, pt, ta, B, Z, hI, hk, hc, hm⟩ := h
  refine ⟨k, r, N, V, T, W, sc, os, M, P, C, ln, R, pt, ta, B, Z, hI, Nat.le_trans hk (by decide), fun KX => ⟨p0, p1, p2, p3, wC, o, fun v w => v = some (.int r) ∧ k = 0 ∧ w = wTF g N V T W sc os, fun E w => k ≠ 0 ∧ [xI, xA][k - 1]? = some E ∧ w = wTF g N V T W sc os, rfl, rfl, hc _ _ (fun h => ⟨rfl, h, rfl⟩) (fun E h1 h2 => ⟨h1, h2, rfl⟩), ?_, ?_⟩, hm⟩
  · rintro v w' ⟨rfl, rfl, rfl⟩
    exact ⟨r, rfl, rfl, _, fun _ => vp_updL_0, rfl⟩
  · rintro E w' ⟨h1, h2, rfl⟩
    match k, h1, h2 with
    | 0, h1, _ => exact absurd rfl h1
    | 1, _, h2 => cases h2; exact Or.inl (⟨rfl, rfl, o, fun q => absurd q (by decide), rfl⟩)
    | 2, _, h2 => cases h2; exact Or.inr (⟨rfl, rfl, o, fun q => absurd q (by decide), rfl⟩)
    | j + 3, _, h2 => simp at h2
theorem oL_reach {g : gW} {spM : wSp} {avM : List Value} {wC wM : va_W} {p0 : Int32} {o : Nat → Int64} (h : opD [xI] g (sp_X3_reach g) spM [.ref (gA g 20), .int p0] avM wC wM) : opL g (sp_L_reach g) spM [.ref (gA g 20), .int p0, .ref (gA g 41)] avM (cO g o :: wC) wM := by
  obtain ⟨k, r, N, V, T, W, sc, os, M, P, C, ln, R, pt, ta, B, Z, hI, hk, hc, hm⟩ := h
  refine ⟨k, r, N, V, T, W, sc, os, M, P, C, ln, R, pt, ta, B, Z, hI, Nat.le_trans hk (by decide), fun KX => ⟨p0, wC, o, fun v w => v = some (.int r) ∧ k = 0 ∧ w = wTF g N V T W sc os, fun E w => k ≠ 0 ∧ [xI][k - 1]? = some E ∧ w = wTF g N V T W sc os, rfl, rfl, hc _ _ (fun h => ⟨rfl, h, rfl⟩) (fun E h1 h2 => ⟨h1, h2, rfl⟩), ?_, ?_⟩, hm⟩
  · rintro v w' ⟨rfl, rfl, rfl⟩
    exact ⟨r, rfl, rfl, _, fun _ => vp_updL_0, rfl⟩
  · rintro E w' ⟨h1, h2, rfl⟩
    match k, h1, h2 with
    | 0, h1, _ => exact absurd rfl h1
    | 1, _, h2 => cases h2; exact ⟨rfl, rfl, o, fun q => absurd q (by decide), rfl⟩
    | j + 2, _, h2 => simp at h2
theorem oL_lastStart {g : gW} {spM : wSp} {avM : List Value} {wC wM : va_W} {p0 p1 p2 : Int32} {o : Nat → Int64} (h : opD [xI, xA] g (sp_X3_lastStart g) spM [.ref (gA g 20), .int p0, .int p1, .int p2] avM wC wM) : opL g (sp_L_lastStart g) spM [.ref (gA g 20), .int p0, .int p1, .int p2, .ref (gA g 41)] avM (cO g o :: wC) wM := by
  obtain ⟨k, r, N, V, T, W, sc, os, M, P, C, ln, R, pt, ta, B, Z, hI, hk, hc, hm⟩ := h
  refine ⟨k, r, N, V, T, W, sc, os, M, P, C, ln, R, pt, ta, B, Z, hI, Nat.le_trans hk (by decide), fun KX => ⟨p0, p1, p2, wC, o, fun v w => v = some (.int r) ∧ k = 0 ∧ w = wTF g N V T W sc os, fun E w => k ≠ 0 ∧ [xI, xA][k - 1]? = some E ∧ w = wTF g N V T W sc os, rfl, rfl, hc _ _ (fun h => ⟨rfl, h, rfl⟩) (fun E h1 h2 => ⟨h1, h2, rfl⟩), ?_, ?_⟩, hm⟩
  · rintro v w' ⟨rfl, rfl, rfl⟩
    exact ⟨r, rfl, rfl, _, fun _ => vp_updL_0, rfl⟩
  · rintro E w' ⟨h1, h2, rfl⟩
    match k, h1, h2 with
    | 0, h1, _ => exact absurd rfl h1
    | 1, _, h2 => cases h2; exact Or.inl (⟨rfl, rfl, o, fun q => absurd q (by decide), rfl⟩)
    | 2, _, h2 => cases h2; exact Or.inr (⟨rfl, rfl, o, fun q => absurd q (by decide), rfl⟩)
    | j + 3, _, h2 => simp at h2
variable {p : Program} {l : Launch} {e : Env} {R : Room} {s : State} {m : MethodId} {args : Array Value} {below : List Frame} {meth : Method} {c : Code} {Qf : State → Prop} {A : Nat → Prop} {cc : ByteArray} {nL : Nat} {own : String} {y : MethodName} {bytes : ByteArray} {maxL index : Nat} {ret' : Option FieldType} {hh : List (Nat × Nat × Nat × Nat)} {rm : Room} {sp : wSp}
theorem wG_wr {g : gW} {k n np pc : Nat} {av rest : List Value} {pre mid post : va_W} {K : wK} {KX : wX} {lo : wLo} (X : wCtx l g.1 vwCl (gTy g) (gCst g) (gStf g) (gSts g) p s m args c A cc nL own) (hnc : wNc s) (hM : wMW l g y (Cond.codeWith y bytes maxL ret' hh :: wGT) rm sp) (hw : ∀ w ∈ [Cond.methodLink own index y, .static y, .initialized y.cls, .codeWith y bytes maxL ret' hh], w ∈ wGT) (hrm : rm.cells = 1 ∧ rm.slots = 6)
    (hdd : y.cls ≠ "java/lang/invoke/MethodHandle" ∧ y.cls ≠ "java/lang/invoke/VarHandle" ∧ (parseMethodDescriptor y.desc).map (fun d => d.parameters.length) = some np) (hR : rm.frames + 1 ≤ R.frames ∧ 8 + (maxL + 11) + rm.locals ≤ R.locals) (hf : k + 1 ≤ R.cells ∧ n + 6 ≤ R.slots) (hd : decode cc pc = .ok (.invokestatic index, 3)) (hav : av.length = np)
    (hrl : w_rl 8 rest) (hsp : sp av mid K KX) (hk : ∀ v mid', K v mid' → wG p l e R s m args below meth c Qf (k + 1) (n + 6) g.1 vwCl A nL (pc + 3) lo (v.toList ++ rest) (pre ++ (mid' ++ post))) : wG p l e R s m args below meth c Qf k n g.1 vwCl A nL pc lo (av.reverse ++ rest) (pre ++ (mid ++ post)) := by
  obtain ⟨S, hK, hAm, hA⟩ := X
  intro H locs ls hl hP hD hS
  obtain ⟨hFc, hst⟩ := w_start (cst := gCst g) (stf := gStf g) (sts := gSts g) hAm hK hA hP hD hS
  have hts := S.2.2.2.2
  have hG : GoodIn wGT (va_wsS own index y (Cond.codeWith y bytes maxL ret' hh :: wGT)) := by
    intro w h
    rcases List.mem_append.mp h with h | h
    · have q := hw w (by simp at h ⊢; rcases h with h | h | h <;> simp [h])
      exact ⟨q, wGT_good q⟩
    · rcases List.mem_cons.mp h with rfl | h
      · have q := hw (Cond.codeWith y bytes maxL ret' hh) (by simp)
        exact ⟨q, wGT_good q⟩
      · exact ⟨h, wGT_good h⟩
  have hr := vx_runSW (l := l) (e := e) (R := R) (below := below) (meth := meth) (locs := locs) (cells := k) (slots := n) (As := av) (rest := rest) (g := F0 m pc ls (av.reverse ++ rest)) S (hM _ mid K KX H.size hsp) (vx_cwSW np hts hG rfl hrm.1 hrm.2 hdd hR) ⟨wU1_blind, fun U hU hW => ⟨rfl, hst U hU hW, hnc.moved hW.alike⟩⟩ rfl hav hl.1 rfl (lv_room (w_sum4 _ hrl)) hd hf
  intro T hT X
  obtain ⟨v, st₀, t, T', L, h0, X', hL, e1, e2, ⟨v', w', hv, hKv, hP1, hK1, hD1, hz, hkk⟩, st⟩ := hr T hT X
  cases hv
  rw [h0] at hz hkk
  rw [← e1] at hz hkk hP1
  obtain ⟨hP2, hD2⟩ := w_back hP hD hkk hFc hP1 hD1
  obtain ⟨t2, a1, b1⟩ := hk v w' hKv T'.heap (locs ++ L) ls hl hP2 hD2 (w_locs hS hFc hz hkk hL) T' rfl X'
  exact ⟨t2, st t2 a1, b1⟩
/-- a wrapper's call, as a rule for a family of states -/
def lWr (G : Nat → Nat → wJp) (pc np : Nat) (sp : wSp) : Prop := ∀ (k n : Nat) (av rest : List Value) (pre mid post : va_W) (lo : wLo) (K : wK) (KX : wX), k + 1 ≤ room_1.cells → n + 6 ≤ room_1.slots → av.length = np → w_rl 8 rest → sp av mid K KX → (∀ v mid', K v mid' → G (k + 1) (n + 6) (pc + 3) lo (v.toList ++ rest) (pre ++ (mid' ++ post))) → G k n pc lo (av.reverse ++ rest) (pre ++ (mid ++ post))
theorem wrl_ferry : ∀ w ∈ [Cond.methodLink RL 91 yL_ferry, .static yL_ferry, .initialized (yL_ferry).cls, .codeWith yL_ferry cL_ferry 9 (some .int) [(0, 18, 21, 13), (0, 18, 25, 15), (0, 18, 29, 17)]], w ∈ wGT := wGT_of _ [393, 394, 52, 395] (by decide +kernel) (by decide +kernel)
theorem wr_ferry {g : gW} (hl : l.stackTraces = false) (X : wCtx l g.1 vwCl (gTy g) (gCst g) (gStf g) (gSts g) p s m args c A code nL RL) (hnc : wNc s) : lWr (fun k n => wG p l e room_1 s m args below meth c Qf k n g.1 vwCl A nL) 199 8 (sp_L_ferry g) :=
  fun _ _ _ _ _ _ _ _ _ _ h1 h2 h3 h4 h5 h6 => wG_wr X hnc (c_L_ferry l hl g) wrl_ferry ⟨rfl, rfl⟩ (by decide +kernel) ⟨by decide, by decide⟩ ⟨h1, h2⟩ (by decide +kernel) h3 h4 h5 h6
theorem wrl_drop : ∀ w ∈ [Cond.methodLink RL 100 yL_drop, .static yL_drop, .initialized (yL_drop).cls, .codeWith yL_drop cL_drop 4 (some .int) [(0, 9, 12, 13)]], w ∈ wGT := wGT_of _ [540, 541, 52, 542] (by decide +kernel) (by decide +kernel)
theorem wr_drop {g : gW} (hl : l.stackTraces = false) (X : wCtx l g.1 vwCl (gTy g) (gCst g) (gStf g) (gSts g) p s m args c A code nL RL) (hnc : wNc s) : lWr (fun k n => wG p l e room_1 s m args below meth c Qf k n g.1 vwCl A nL) 286 3 (sp_L_drop g) :=
  fun _ _ _ _ _ _ _ _ _ _ h1 h2 h3 h4 h5 h6 => wG_wr X hnc (c_L_drop l hl g) wrl_drop ⟨rfl, rfl⟩ (by decide +kernel) ⟨by decide, by decide⟩ ⟨h1, h2⟩ (by decide +kernel) h3 h4 h5 h6
theorem wrl_kind : ∀ w ∈ [Cond.methodLink RL 104 yL_kind, .static yL_kind, .initialized (yL_kind).cls, .codeWith yL_kind cL_kind 5 (some .int) [(0, 10, 13, 13), (0, 10, 17, 15)]], w ∈ wGT := wGT_of _ [555, 556, 52, 557] (by decide +kernel) (by decide +kernel)
theorem wr_kind {g : gW} (hl : l.stackTraces = false) (X : wCtx l g.1 vwCl (gTy g) (gCst g) (gStf g) (gSts g) p s m args c A code nL RL) (hnc : wNc s) : lWr (fun k n => wG p l e room_1 s m args below meth c Qf k n g.1 vwCl A nL) 348 4 (sp_L_kind g) :=
  fun _ _ _ _ _ _ _ _ _ _ h1 h2 h3 h4 h5 h6 => wG_wr X hnc (c_L_kind l hl g) wrl_kind ⟨rfl, rfl⟩ (by decide +kernel) ⟨by decide, by decide⟩ ⟨h1, h2⟩ (by decide +kernel) h3 h4 h5 h6
theorem wrl_clock : ∀ w ∈ [Cond.methodLink RL 108 yL_clock, .static yL_clock, .initialized (yL_clock).cls, .codeWith yL_clock cL_clock 5 (some .int) [(0, 10, 13, 13), (0, 10, 17, 15)]], w ∈ wGT := wGT_of _ [567, 568, 52, 569] (by decide +kernel) (by decide +kernel)
theorem wr_clock {g : gW} (hl : l.stackTraces = false) (X : wCtx l g.1 vwCl (gTy g) (gCst g) (gStf g) (gSts g) p s m args c A code nL RL) (hnc : wNc s) : lWr (fun k n => wG p l e room_1 s m args below meth c Qf k n g.1 vwCl A nL) 416 4 (sp_L_clock g) :=
  fun _ _ _ _ _ _ _ _ _ _ h1 h2 h3 h4 h5 h6 => wG_wr X hnc (c_L_clock l hl g) wrl_clock ⟨rfl, rfl⟩ (by decide +kernel) ⟨by decide, by decide⟩ ⟨h1, h2⟩ (by decide +kernel) h3 h4 h5 h6
theorem wrl_set : ∀ w ∈ [Cond.methodLink RL 111 yL_set, .static yL_set, .initialized (yL_set).cls, .codeWith yL_set cL_set 5 (some .int) [(0, 10, 13, 13), (0, 10, 17, 15)]], w ∈ wGT := wGT_of _ [574, 575, 52, 576] (by decide +kernel) (by decide +kernel)
theorem wr_set {g : gW} (hl : l.stackTraces = false) (X : wCtx l g.1 vwCl (gTy g) (gCst g) (gStf g) (gSts g) p s m args c A code nL RL) (hnc : wNc s) : lWr (fun k n => wG p l e room_1 s m args below meth c Qf k n g.1 vwCl A nL) 484 4 (sp_L_set g) :=
  fun _ _ _ _ _ _ _ _ _ _ h1 h2 h3 h4 h5 h6 => wG_wr X hnc (c_L_set l hl g) wrl_set ⟨rfl, rfl⟩ (by decide +kernel) ⟨by decide, by decide⟩ ⟨h1, h2⟩ (by decide +kernel) h3 h4 h5 h6
theorem wrl_place : ∀ w ∈ [Cond.methodLink RL 114 yL_place, .static yL_place, .initialized (yL_place).cls, .codeWith yL_place cL_place 7 (some .int) [(0, 14, 17, 13), (0, 14, 21, 15)]], w ∈ wGT := wGT_of _ [587, 588, 52, 589] (by decide +kernel) (by decide +kernel)
theorem wr_place {g : gW} (hl : l.stackTraces = false) (X : wCtx l g.1 vwCl (gTy g) (gCst g) (gStf g) (gSts g) p s m args c A code nL RL) (hnc : wNc s) : lWr (fun k n => wG p l e room_1 s m args below meth c Qf k n g.1 vwCl A nL) 564 6 (sp_L_place g) :=
  fun _ _ _ _ _ _ _ _ _ _ h1 h2 h3 h4 h5 h6 => wG_wr X hnc (c_L_place l hl g) wrl_place ⟨rfl, rfl⟩ (by decide +kernel) ⟨by decide, by decide⟩ ⟨h1, h2⟩ (by decide +kernel) h3 h4 h5 h6
theorem wrl_rest : ∀ w ∈ [Cond.methodLink RL 118 yL_rest, .static yL_rest, .initialized (yL_rest).cls, .codeWith yL_rest cL_rest 5 (some .int) [(0, 10, 13, 13), (0, 10, 17, 15), (0, 10, 21, 17)]], w ∈ wGT := wGT_of _ [601, 602, 52, 603] (by decide +kernel) (by decide +kernel)
theorem wr_rest {g : gW} (hl : l.stackTraces = false) (X : wCtx l g.1 vwCl (gTy g) (gCst g) (gStf g) (gSts g) p s m args c A code nL RL) (hnc : wNc s) : lWr (fun k n => wG p l e room_1 s m args below meth c Qf k n g.1 vwCl A nL) 644 4 (sp_L_rest g) :=
  fun _ _ _ _ _ _ _ _ _ _ h1 h2 h3 h4 h5 h6 => wG_wr X hnc (c_L_rest l hl g) wrl_rest ⟨rfl, rfl⟩ (by decide +kernel) ⟨by decide, by decide⟩ ⟨h1, h2⟩ (by decide +kernel) h3 h4 h5 h6
theorem wrl_take : ∀ w ∈ [Cond.methodLink RL 121 yL_take, .static yL_take, .initialized (yL_take).cls, .codeWith yL_take cL_take 5 (some .int) [(0, 10, 13, 13), (0, 10, 17, 17)]], w ∈ wGT := wGT_of _ [608, 609, 52, 610] (by decide +kernel) (by decide +kernel)
theorem wr_take {g : gW} (hl : l.stackTraces = false) (X : wCtx l g.1 vwCl (gTy g) (gCst g) (gStf g) (gSts g) p s m args c A code nL RL) (hnc : wNc s) : lWr (fun k n => wG p l e room_1 s m args below meth c Qf k n g.1 vwCl A nL) 712 4 (sp_L_take g) :=
  fun _ _ _ _ _ _ _ _ _ _ h1 h2 h3 h4 h5 h6 => wG_wr X hnc (c_L_take l hl g) wrl_take ⟨rfl, rfl⟩ (by decide +kernel) ⟨by decide, by decide⟩ ⟨h1, h2⟩ (by decide +kernel) h3 h4 h5 h6
theorem wrl_append : ∀ w ∈ [Cond.methodLink RL 124 yL_append, .static yL_append, .initialized (yL_append).cls, .codeWith yL_append cL_append 4 (some .int) [(0, 9, 12, 15), (0, 9, 15, 17)]], w ∈ wGT := wGT_of _ [626, 627, 52, 628] (by decide +kernel) (by decide +kernel)
theorem wr_append {g : gW} (hl : l.stackTraces = false) (X : wCtx l g.1 vwCl (gTy g) (gCst g) (gStf g) (gSts g) p s m args c A code nL RL) (hnc : wNc s) : lWr (fun k n => wG p l e room_1 s m args below meth c Qf k n g.1 vwCl A nL) 774 3 (sp_L_append g) :=
  fun _ _ _ _ _ _ _ _ _ _ h1 h2 h3 h4 h5 h6 => wG_wr X hnc (c_L_append l hl g) wrl_append ⟨rfl, rfl⟩ (by decide +kernel) ⟨by decide, by decide⟩ ⟨h1, h2⟩ (by decide +kernel) h3 h4 h5 h6
theorem wrl_ferries : ∀ w ∈ [Cond.methodLink RL 135 yL_ferries, .static yL_ferries, .initialized (yL_ferries).cls, .codeWith yL_ferries cL_ferries 3 (some .int) [(0, 8, 11, 15), (0, 8, 14, 17)]], w ∈ wGT := wGT_of _ [637, 638, 52, 639] (by decide +kernel) (by decide +kernel)
theorem wr_ferries {g : gW} (hl : l.stackTraces = false) (X : wCtx l g.1 vwCl (gTy g) (gCst g) (gStf g) (gSts g) p s m args c A code nL RL) (hnc : wNc s) : lWr (fun k n => wG p l e room_1 s m args below meth c Qf k n g.1 vwCl A nL) 850 2 (sp_L_ferries g) :=
  fun _ _ _ _ _ _ _ _ _ _ h1 h2 h3 h4 h5 h6 => wG_wr X hnc (c_L_ferries l hl g) wrl_ferries ⟨rfl, rfl⟩ (by decide +kernel) ⟨by decide, by decide⟩ ⟨h1, h2⟩ (by decide +kernel) h3 h4 h5 h6
theorem wrl_undo : ∀ w ∈ [Cond.methodLink RL 139 yL_undo, .static yL_undo, .initialized (yL_undo).cls, .codeWith yL_undo cL_undo 3 (some .int) [(0, 8, 11, 17)]], w ∈ wGT := wGT_of _ [657, 658, 52, 659] (by decide +kernel) (by decide +kernel)
theorem wr_undo {g : gW} (hl : l.stackTraces = false) (X : wCtx l g.1 vwCl (gTy g) (gCst g) (gStf g) (gSts g) p s m args c A code nL RL) (hnc : wNc s) : lWr (fun k n => wG p l e room_1 s m args below meth c Qf k n g.1 vwCl A nL) 894 2 (sp_L_undo g) :=
  fun _ _ _ _ _ _ _ _ _ _ h1 h2 h3 h4 h5 h6 => wG_wr X hnc (c_L_undo l hl g) wrl_undo ⟨rfl, rfl⟩ (by decide +kernel) ⟨by decide, by decide⟩ ⟨h1, h2⟩ (by decide +kernel) h3 h4 h5 h6
theorem wrl_ferryOf : ∀ w ∈ [Cond.methodLink RL 142 yL_ferryOf, .static yL_ferryOf, .initialized (yL_ferryOf).cls, .codeWith yL_ferryOf cL_ferryOf 5 (some .int) [(0, 10, 13, 13), (0, 10, 17, 15)]], w ∈ wGT := wGT_of _ [668, 669, 52, 670] (by decide +kernel) (by decide +kernel)
theorem wr_ferryOf {g : gW} (hl : l.stackTraces = false) (X : wCtx l g.1 vwCl (gTy g) (gCst g) (gStf g) (gSts g) p s m args c A code nL RL) (hnc : wNc s) : lWr (fun k n => wG p l e room_1 s m args below meth c Qf k n g.1 vwCl A nL) 950 4 (sp_L_ferryOf g) :=
  fun _ _ _ _ _ _ _ _ _ _ h1 h2 h3 h4 h5 h6 => wG_wr X hnc (c_L_ferryOf l hl g) wrl_ferryOf ⟨rfl, rfl⟩ (by decide +kernel) ⟨by decide, by decide⟩ ⟨h1, h2⟩ (by decide +kernel) h3 h4 h5 h6
theorem wrl_traveller : ∀ w ∈ [Cond.methodLink RL 145 yL_traveller, .static yL_traveller, .initialized (yL_traveller).cls, .codeWith yL_traveller cL_traveller 5 (some .int) [(0, 10, 13, 13), (0, 10, 17, 15)]], w ∈ wGT := wGT_of _ [675, 676, 52, 677] (by decide +kernel) (by decide +kernel)
theorem wr_traveller {g : gW} (hl : l.stackTraces = false) (X : wCtx l g.1 vwCl (gTy g) (gCst g) (gStf g) (gSts g) p s m args c A code nL RL) (hnc : wNc s) : lWr (fun k n => wG p l e room_1 s m args below meth c Qf k n g.1 vwCl A nL) 1018 4 (sp_L_traveller g) :=
  fun _ _ _ _ _ _ _ _ _ _ h1 h2 h3 h4 h5 h6 => wG_wr X hnc (c_L_traveller l hl g) wrl_traveller ⟨rfl, rfl⟩ (by decide +kernel) ⟨by decide, by decide⟩ ⟨h1, h2⟩ (by decide +kernel) h3 h4 h5 h6
theorem wrl_leaves : ∀ w ∈ [Cond.methodLink RL 148 yL_leaves, .static yL_leaves, .initialized (yL_leaves).cls, .codeWith yL_leaves cL_leaves 5 (some .int) [(0, 10, 13, 13), (0, 10, 17, 15)]], w ∈ wGT := wGT_of _ [682, 683, 52, 684] (by decide +kernel) (by decide +kernel)
theorem wr_leaves {g : gW} (hl : l.stackTraces = false) (X : wCtx l g.1 vwCl (gTy g) (gCst g) (gStf g) (gSts g) p s m args c A code nL RL) (hnc : wNc s) : lWr (fun k n => wG p l e room_1 s m args below meth c Qf k n g.1 vwCl A nL) 1086 4 (sp_L_leaves g) :=
  fun _ _ _ _ _ _ _ _ _ _ h1 h2 h3 h4 h5 h6 => wG_wr X hnc (c_L_leaves l hl g) wrl_leaves ⟨rfl, rfl⟩ (by decide +kernel) ⟨by decide, by decide⟩ ⟨h1, h2⟩ (by decide +kernel) h3 h4 h5 h6
theorem wrl_costs : ∀ w ∈ [Cond.methodLink RL 151 yL_costs, .static yL_costs, .initialized (yL_costs).cls, .codeWith yL_costs cL_costs 5 (some .int) [(0, 10, 13, 13), (0, 10, 17, 15)]], w ∈ wGT := wGT_of _ [689, 690, 52, 691] (by decide +kernel) (by decide +kernel)
theorem wr_costs {g : gW} (hl : l.stackTraces = false) (X : wCtx l g.1 vwCl (gTy g) (gCst g) (gStf g) (gSts g) p s m args c A code nL RL) (hnc : wNc s) : lWr (fun k n => wG p l e room_1 s m args below meth c Qf k n g.1 vwCl A nL) 1154 4 (sp_L_costs g) :=
  fun _ _ _ _ _ _ _ _ _ _ h1 h2 h3 h4 h5 h6 => wG_wr X hnc (c_L_costs l hl g) wrl_costs ⟨rfl, rfl⟩ (by decide +kernel) ⟨by decide, by decide⟩ ⟨h1, h2⟩ (by decide +kernel) h3 h4 h5 h6
theorem wrl_count : ∀ w ∈ [Cond.methodLink RL 154 yL_count, .static yL_count, .initialized (yL_count).cls, .codeWith yL_count cL_count 4 (some .int) [(0, 9, 12, 15)]], w ∈ wGT := wGT_of _ [696, 697, 52, 698] (by decide +kernel) (by decide +kernel)
theorem wr_count {g : gW} (hl : l.stackTraces = false) (X : wCtx l g.1 vwCl (gTy g) (gCst g) (gStf g) (gSts g) p s m args c A code nL RL) (hnc : wNc s) : lWr (fun k n => wG p l e room_1 s m args below meth c Qf k n g.1 vwCl A nL) 1216 3 (sp_L_count g) :=
  fun _ _ _ _ _ _ _ _ _ _ h1 h2 h3 h4 h5 h6 => wG_wr X hnc (c_L_count l hl g) wrl_count ⟨rfl, rfl⟩ (by decide +kernel) ⟨by decide, by decide⟩ ⟨h1, h2⟩ (by decide +kernel) h3 h4 h5 h6
theorem wrl_setting : ∀ w ∈ [Cond.methodLink RL 157 yL_setting, .static yL_setting, .initialized (yL_setting).cls, .codeWith yL_setting cL_setting 4 (some .int) [(0, 9, 12, 13)]], w ∈ wGT := wGT_of _ [703, 704, 52, 705] (by decide +kernel) (by decide +kernel)
theorem wr_setting {g : gW} (hl : l.stackTraces = false) (X : wCtx l g.1 vwCl (gTy g) (gCst g) (gStf g) (gSts g) p s m args c A code nL RL) (hnc : wNc s) : lWr (fun k n => wG p l e room_1 s m args below meth c Qf k n g.1 vwCl A nL) 1272 3 (sp_L_setting g) :=
  fun _ _ _ _ _ _ _ _ _ _ h1 h2 h3 h4 h5 h6 => wG_wr X hnc (c_L_setting l hl g) wrl_setting ⟨rfl, rfl⟩ (by decide +kernel) ⟨by decide, by decide⟩ ⟨h1, h2⟩ (by decide +kernel) h3 h4 h5 h6
theorem wrl_refusal : ∀ w ∈ [Cond.methodLink RL 160 yL_refusal, .static yL_refusal, .initialized (yL_refusal).cls, .codeWith yL_refusal cL_refusal 5 (some .int) [(0, 10, 13, 13)]], w ∈ wGT := wGT_of _ [710, 711, 52, 712] (by decide +kernel) (by decide +kernel)
theorem wr_refusal {g : gW} (hl : l.stackTraces = false) (X : wCtx l g.1 vwCl (gTy g) (gCst g) (gStf g) (gSts g) p s m args c A code nL RL) (hnc : wNc s) : lWr (fun k n => wG p l e room_1 s m args below meth c Qf k n g.1 vwCl A nL) 1334 4 (sp_L_refusal g) :=
  fun _ _ _ _ _ _ _ _ _ _ h1 h2 h3 h4 h5 h6 => wG_wr X hnc (c_L_refusal l hl g) wrl_refusal ⟨rfl, rfl⟩ (by decide +kernel) ⟨by decide, by decide⟩ ⟨h1, h2⟩ (by decide +kernel) h3 h4 h5 h6
theorem wrl_soonest : ∀ w ∈ [Cond.methodLink RL 163 yL_soonest, .static yL_soonest, .initialized (yL_soonest).cls, .codeWith yL_soonest cL_soonest 6 (some .int) [(0, 12, 15, 13), (0, 12, 19, 15)]], w ∈ wGT := wGT_of _ [717, 718, 52, 719] (by decide +kernel) (by decide +kernel)
theorem wr_soonest {g : gW} (hl : l.stackTraces = false) (X : wCtx l g.1 vwCl (gTy g) (gCst g) (gStf g) (gSts g) p s m args c A code nL RL) (hnc : wNc s) : lWr (fun k n => wG p l e room_1 s m args below meth c Qf k n g.1 vwCl A nL) 1408 5 (sp_L_soonest g) :=
  fun _ _ _ _ _ _ _ _ _ _ h1 h2 h3 h4 h5 h6 => wG_wr X hnc (c_L_soonest l hl g) wrl_soonest ⟨rfl, rfl⟩ (by decide +kernel) ⟨by decide, by decide⟩ ⟨h1, h2⟩ (by decide +kernel) h3 h4 h5 h6
theorem wrl_cheapest : ∀ w ∈ [Cond.methodLink RL 167 yL_cheapest, .static yL_cheapest, .initialized (yL_cheapest).cls, .codeWith yL_cheapest cL_cheapest 7 (some .int) [(0, 14, 17, 13), (0, 14, 21, 15)]], w ∈ wGT := wGT_of _ [724, 725, 52, 726] (by decide +kernel) (by decide +kernel)
theorem wr_cheapest {g : gW} (hl : l.stackTraces = false) (X : wCtx l g.1 vwCl (gTy g) (gCst g) (gStf g) (gSts g) p s m args c A code nL RL) (hnc : wNc s) : lWr (fun k n => wG p l e room_1 s m args below meth c Qf k n g.1 vwCl A nL) 1494 6 (sp_L_cheapest g) :=
  fun _ _ _ _ _ _ _ _ _ _ h1 h2 h3 h4 h5 h6 => wG_wr X hnc (c_L_cheapest l hl g) wrl_cheapest ⟨rfl, rfl⟩ (by decide +kernel) ⟨by decide, by decide⟩ ⟨h1, h2⟩ (by decide +kernel) h3 h4 h5 h6
theorem wrl_reach : ∀ w ∈ [Cond.methodLink RL 170 yL_reach, .static yL_reach, .initialized (yL_reach).cls, .codeWith yL_reach cL_reach 4 (some .int) [(0, 9, 12, 13)]], w ∈ wGT := wGT_of _ [731, 732, 52, 733] (by decide +kernel) (by decide +kernel)
theorem wr_reach {g : gW} (hl : l.stackTraces = false) (X : wCtx l g.1 vwCl (gTy g) (gCst g) (gStf g) (gSts g) p s m args c A code nL RL) (hnc : wNc s) : lWr (fun k n => wG p l e room_1 s m args below meth c Qf k n g.1 vwCl A nL) 1568 3 (sp_L_reach g) :=
  fun _ _ _ _ _ _ _ _ _ _ h1 h2 h3 h4 h5 h6 => wG_wr X hnc (c_L_reach l hl g) wrl_reach ⟨rfl, rfl⟩ (by decide +kernel) ⟨by decide, by decide⟩ ⟨h1, h2⟩ (by decide +kernel) h3 h4 h5 h6
theorem wrl_lastStart : ∀ w ∈ [Cond.methodLink RL 173 yL_lastStart, .static yL_lastStart, .initialized (yL_lastStart).cls, .codeWith yL_lastStart cL_lastStart 6 (some .int) [(0, 12, 15, 13), (0, 12, 19, 15)]], w ∈ wGT := wGT_of _ [738, 739, 52, 740] (by decide +kernel) (by decide +kernel)
theorem wr_lastStart {g : gW} (hl : l.stackTraces = false) (X : wCtx l g.1 vwCl (gTy g) (gCst g) (gStf g) (gSts g) p s m args c A code nL RL) (hnc : wNc s) : lWr (fun k n => wG p l e room_1 s m args below meth c Qf k n g.1 vwCl A nL) 1636 5 (sp_L_lastStart g) :=
  fun _ _ _ _ _ _ _ _ _ _ h1 h2 h3 h4 h5 h6 => wG_wr X hnc (c_L_lastStart l hl g) wrl_lastStart ⟨rfl, rfl⟩ (by decide +kernel) ⟨by decide, by decide⟩ ⟨h1, h2⟩ (by decide +kernel) h3 h4 h5 h6
end LWC
