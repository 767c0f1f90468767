noncomputable section EQD
/-! numbers read are within their bounds -/
def rng (j v : Int) : Prop := kLEAST j.toNat ≤ v ∧ v ≤ kMOST j.toNat
def rgP (R : Nat → Int) (pt k : Int) : Prop := ∀ q j : Int, 0 ≤ q → 0 ≤ j → j < 7 → (q < pt ∨ (q = pt ∧ j < k)) → rng j (R (7 * q + j).toNat)
theorem rgP_su {R : Nat → Int} {pt k k' v : Int} (h : rgP R pt k) (hp : 0 ≤ pt) (hk : 0 ≤ k ∧ k < 7) (hv : rng k v) (hk' : k' = k + 1) : rgP (su R (7 * pt + k).toNat v) pt k' := by
  subst hk'
  intro q j h1 h2 h3 h4
  by_cases e : q = pt ∧ j = k
  · obtain ⟨rfl, rfl⟩ := e
    rw [su_s]
    exact hv
  · rw [su_n (by omega)]
    exact h q j h1 h2 h3 (by omega)
theorem mDg_rg {C : Nat → Int} {ln hi L : Int} (hL : 0 ≤ L) : ∀ (n : Nat) (v ta : Int), 0 < n → (L ≤ 10 * v + C ta.toNat - 48 ∧ 10 * v + C ta.toNat - 48 ≤ hi) → L ≤ (mDg C ln hi n v ta).1 ∧ (mDg C ln hi n v ta).1 ≤ hi := by
  intro n
  induction n with
  | zero => intro v ta h; omega
  | succ n ih =>
    intro v ta _ h
    unfold mDg
    by_cases h6 : 0 < 10 * v + C ta.toNat - 48 ∧ seP C ln (ta + 1) 48 57 ∧ 10 * (10 * v + C ta.toNat - 48) + C (ta + 1).toNat - 48 ≤ hi
    · rw [if_pos h6]
      obtain ⟨a, ⟨b1, b2, b3⟩, c⟩ := h6
      by_cases hn : n = 0
      · subst hn
        unfold mDg
        exact h
      · exact ih _ _ (by omega) ⟨by omega, c⟩
    · rw [if_neg h6]
      exact h
theorem mNum_rg {C : Nat → Int} {ln : Int} {R : Nat → Int} {ta c lo hi p pt k k' : Int} (h : (mNum C ln R ta c lo hi p).1 = 1) (hlo : lo = kLEAST k.toNat) (hhi : hi = kMOST k.toNat) (h9 : 9 ≤ hi) (hp : p = 7 * pt + k) (hp0 : 0 ≤ pt) (hk : 0 ≤ k ∧ k < 7) (hk' : k' = k + 1) (hr : rgP R pt k) : rgP (mNum C ln R ta c lo hi p).2.2 pt k' := by
  have hL := kLEAST_in k.toNat
  unfold mNum at h ⊢
  by_cases h1 : seP C ln ta c c
  · rw [if_neg (fun q => q h1)] at h ⊢
    by_cases h2 : seP C ln (ta + 1) (if lo = 0 then 48 else 49) 57
    · rw [if_neg (fun q => q h2)] at h ⊢
      obtain ⟨t1, t2, t3⟩ := h2
      have t4 : 48 ≤ C (ta + 1).toNat ∧ lo ≤ C (ta + 1).toNat - 48 := by
        by_cases q : lo = 0
        · rw [if_pos q] at t2; omega
        · rw [if_neg q] at t2; omega
      have h3 := mDg_rg (C := C) (ln := ln) (hi := hi) (L := lo) (by omega) (ln - (ta + 1)).toNat 0 (ta + 1) (by omega) (by omega)
      dsimp only
      rw [hp]
      exact rgP_su hr hp0 hk (by unfold rng; rw [← hlo, ← hhi]; exact h3) hk'
    · rw [if_pos h2] at h
      cases h
  · rw [if_pos h1] at h
    cases h
theorem mIsl_rg {C : Nat → Int} {ln : Int} {R : Nat → Int} {ta pt : Int} (h : (mIsl C ln R ta (7 * pt)).1 = 1) (hp0 : 0 ≤ pt) (hr : rgP R pt 0) : rgP (mIsl C ln R ta (7 * pt)).2.2 pt 2 := by
  unfold mIsl at h ⊢
  by_cases h1 : seP C ln ta 97 104
  · rw [if_neg (fun q => q h1)] at h ⊢
    by_cases h2 : seP C ln (ta + 1) 97 104 ∧ C (ta + 1).toNat - 97 ≠ C ta.toNat - 97
    · rw [if_neg (fun q => q h2)] at h ⊢
      dsimp only
      have a := h1.2
      have b := h2.1.2
      have h3 := rgP_su (k' := 1) (v := C ta.toNat - 97) hr hp0 (by omega) (show (0 : Int) ≤ C ta.toNat - 97 ∧ C ta.toNat - 97 ≤ 7 by omega) rfl
      rw [show 7 * pt + 0 = 7 * pt by omega] at h3
      exact rgP_su (k' := 2) h3 hp0 (by omega) (show (0 : Int) ≤ C (ta + 1).toNat - 97 ∧ C (ta + 1).toNat - 97 ≤ 7 by omega) rfl
    · rw [if_pos h2] at h
      cases h
  · rw [if_pos h1] at h
    cases h
theorem mThen_1 {r : tRd} {k : Int → (Nat → Int) → tRd} (h : (mThen r k).1 = 1) (h0 : r.1 = 0 ∨ r.1 = 1) : r.1 = 1 ∧ mThen r k = k r.2.1 r.2.2 := by
  unfold mThen at h ⊢
  rcases h0 with q | q
  · rw [if_pos q, q] at h
    cases h
  · rw [if_neg (by omega)] at h ⊢
    exact ⟨q, rfl⟩
theorem mPart_rg {C : Nat → Int} {ln : Int} {R : Nat → Int} {pt ta : Int} (ht : ta ≤ ln) (hp : 0 ≤ pt ∧ pt < 15) (h : (mPart C ln R pt ta).1 = 1) (hr : rgP R pt 0) : rgP (mPart C ln R pt ta).2.2 (pt + 1) 0 := by
  have hpl : mPl pt = 7 * pt := by unfold mPl; rw [if_pos (by omega)]
  unfold mPart at h ⊢
  rw [hpl] at h ⊢
  have i0 := mIsl_in (C := C) (ln := ln) (R := R) (ta := ta) (p := 7 * pt) ht
  obtain ⟨a0, b0⟩ := mThen_1 h i0.1
  rw [b0] at h ⊢
  have r0 := mIsl_rg a0 hp.1 hr
  generalize mIsl C ln R ta (7 * pt) = m0 at h i0 r0 ⊢
  have i1 := mNum_in (C := C) (ln := ln) (R := m0.2.2) (ta := m0.2.1) (c := 64) (lo := 0) (hi := 199) (p := 7 * pt + 2) i0.2.2
  obtain ⟨a1, b1⟩ := mThen_1 h i1.1
  rw [b1] at h ⊢
  have r1 := mNum_rg (k := 2) (k' := 3) a1 rfl rfl (by omega) rfl hp.1 (by omega) rfl r0
  generalize mNum C ln m0.2.2 m0.2.1 64 0 199 (7 * pt + 2) = m1 at h i1 r1 ⊢
  have i2 := mNum_in (C := C) (ln := ln) (R := m1.2.2) (ta := m1.2.1) (c := 47) (lo := 1) (hi := 199) (p := 7 * pt + 3) i1.2.2
  obtain ⟨a2, b2⟩ := mThen_1 h i2.1
  rw [b2] at h ⊢
  have r2 := mNum_rg (k := 3) (k' := 4) a2 rfl rfl (by omega) rfl hp.1 (by omega) rfl r1
  generalize mNum C ln m1.2.2 m1.2.1 47 1 199 (7 * pt + 3) = m2 at h i2 r2 ⊢
  have i3 := mNum_in (C := C) (ln := ln) (R := m2.2.2) (ta := m2.2.1) (c := 43) (lo := 1) (hi := 99) (p := 7 * pt + 4) i2.2.2
  obtain ⟨a3, b3⟩ := mThen_1 h i3.1
  rw [b3] at h ⊢
  have r3 := mNum_rg (k := 4) (k' := 5) a3 rfl rfl (by omega) rfl hp.1 (by omega) rfl r2
  generalize mNum C ln m2.2.2 m2.2.1 43 1 99 (7 * pt + 4) = m3 at h i3 r3 ⊢
  have i4 := mNum_in (C := C) (ln := ln) (R := m3.2.2) (ta := m3.2.1) (c := 36) (lo := 0) (hi := 99) (p := 7 * pt + 5) i3.2.2
  obtain ⟨a4, b4⟩ := mThen_1 h i4.1
  rw [b4] at h ⊢
  have r4 := mNum_rg (k := 5) (k' := 6) a4 rfl rfl (by omega) rfl hp.1 (by omega) rfl r3
  generalize mNum C ln m3.2.2 m3.2.1 36 0 99 (7 * pt + 5) = m4 at h r4 ⊢
  unfold mKd
  dsimp only
  have r5 := rgP_su (k' := 7) (v := if seP C ln m4.2.1 94 95 then C m4.2.1.toNat - 94 + 1 else 0) r4 hp.1 (by omega) (by
    show (0 : Int) ≤ _ ∧ _ ≤ (2 : Int)
    by_cases q : seP C ln m4.2.1 94 95
    · rw [if_pos q]
      have := q.2
      omega
    · rw [if_neg q]
      omega) rfl
  intro q j q1 q2 q3 q4
  exact r5 q j q1 q2 q3 (by omega)
theorem mCmp_rg {C : Nat → Int} {ln : Int} : ∀ (n : Nat) (is ta : Int) (R : Nat → Int) (pt : Int), (is = 0 ∨ is = 1) → ta ≤ ln → 0 ≤ pt → (mCmp C ln n is ta R pt).1 ≠ 0 → pt ≤ (mCmp C ln n is ta R pt).2.2.2 ∧ (rgP R pt 0 → (mCmp C ln n is ta R pt).2.2.2 ≤ 15 → rgP (mCmp C ln n is ta R pt).2.2.1 (mCmp C ln n is ta R pt).2.2.2 0) := by
  intro n
  induction n with
  | zero => intro is ta R pt _ _ _ _; exact ⟨Int.le_refl _, fun h _ => h⟩
  | succ n ih =>
    intro is ta R pt h1 h2 h3 h4
    unfold mCmp at h4 ⊢
    by_cases h5 : is = 0 ∨ ¬ ta < ln
    · rw [if_pos h5]
      exact ⟨Int.le_refl _, fun h _ => h⟩
    · rw [if_neg h5] at h4 ⊢
      by_cases h6 : seP C ln ta 59 59
      · rw [if_pos h6] at h4 ⊢
        have h7 := mPart_in (C := C) (ln := ln) (R := R) (pt := pt) (ta := ta + 1) (by omega)
        unfold okRd at h7
        rcases h7.1 with q | q
        · rw [q, mCmp_0] at h4
          exact absurd rfl h4
        · rw [q] at h4 ⊢
          obtain ⟨k1, k2⟩ := ih 1 _ _ (pt + 1) (Or.inr rfl) h7.2.2 (by omega) h4
          exact ⟨by omega, fun h8 h9 => k2 (mPart_rg (by omega) (by omega) q h8) h9⟩
      · rw [if_neg h6, mCmp_0] at h4
        exact absurd rfl h4
theorem mC0_rg {C : Nat → Int} {ln : Int} {R : Nat → Int} (hl : 0 ≤ ln) (h : (mC0 C ln R).1 ≠ 0) (h15 : (mC0 C ln R).2.2.2 ≤ 15) : rgP (mC0 C ln R).2.2.1 (mC0 C ln R).2.2.2 0 := by
  unfold mC0 at h h15 ⊢
  have h7 := mPart_in (C := C) (ln := ln) (R := R) (pt := 0) (ta := 0) hl
  unfold okRd at h7
  rcases h7.1 with q | q
  · rw [q, mCmp_0] at h
    exact absurd rfl h
  · rw [q] at h h15 ⊢
    exact (mCmp_rg 61 1 _ _ (0 + 1) (Or.inr rfl) h7.2.2 (by omega) h).2 (mPart_rg hl (by omega) q (fun a b c d e f => by omega)) h15
theorem RG_many {U R : Nat → Int} {p : Int} (ha : agr U R p 0) (hr : rgP R p 0) : ∀ (n : Nat) (i : Int) (N M : Nat → Int), RG N M → i + n = p → 0 ≤ i → N 0 + n ≤ 14 → RG (teI U n i N) (muI R n i M) := by
  intro n
  induction n with
  | zero => intro i N M h _ _ _; exact h
  | succ n ih =>
    intro i N M h h1 h2 h3
    unfold teI muI
    have e := fun j (a : 0 ≤ j) (b : j < 7) => ha i j h2 a b (by omega)
    have r := fun j (a : 0 ≤ j) (b : j < 7) => hr i j h2 a b (by omega)
    have e0 := e 0 (by omega) (by omega)
    rw [show 7 * i + 0 = 7 * i by omega] at e0
    rw [e0, e 1 (by omega) (by omega), e 2 (by omega) (by omega), e 3 (by omega) (by omega), e 4 (by omega) (by omega), e 5 (by omega) (by omega), e 6 (by omega) (by omega)]
    have r0 := r 0 (by omega) (by omega)
    rw [show 7 * i + 0 = 7 * i by omega] at r0
    refine ih (i + 1) _ _ (RG_tell h (by omega) r0 (r 1 (by omega) (by omega)) (r 2 (by omega) (by omega)) (r 3 (by omega) (by omega)) (r 4 (by omega) (by omega)) (r 5 (by omega) (by omega)) (r 6 (by omega) (by omega))) (by omega) (by omega) ?_
    rw [tellN_0]
    omega
/-! the digests -/
theorem tot_eq {N M : Nat → Int} (h : RG N M) (sc k : Int) : tot N sc k = mtot M sc k := by
  have e := h.1.2.2.2.1
  have s : ∀ w : Int, 0 ≤ w → w < 5 → tsum N w = smI M w 4 0 0 := by
    intro w a b
    unfold tsum
    show _ = 0 + (M (129 + 5 * 0 + w).toNat) + (M (129 + 5 * (0 + 1) + w).toNat) + (M (129 + 5 * (0 + 1 + 1) + w).toNat) + (M (129 + 5 * (0 + 1 + 1 + 1) + w).toNat)
    rw [e 0 w (by omega) (by omega) a b, e 1 w (by omega) (by omega) a b, e 2 w (by omega) (by omega) a b, e 3 w (by omega) (by omega) a b]
    show M (129 + 5 * 0 + w).toNat + M (129 + 5 * 1 + w).toNat + M (129 + 5 * 2 + w).toNat + M (129 + 5 * 3 + w).toNat = 0 + M (129 + 5 * 0 + w).toNat + M (129 + 5 * 1 + w).toNat + M (129 + 5 * 2 + w).toNat + M (129 + 5 * 3 + w).toNat
    omega
  unfold tot mtot
  rw [h.1.1, s 3 (by omega) (by omega), s 4 (by omega) (by omega), s 2 (by omega) (by omega)]
theorem dgT_eq {N M : Nat → Int} (h : RG N M) (sc : Int) : ∀ (n : Nat) (k : Int) (x : Int64), dgT N sc n k x = dmT M sc n k x := by
  intro n
  induction n with
  | zero => intro k x; rfl
  | succ n ih =>
    intro k x
    unfold dgT dmT
    rw [tot_eq h]
    exact ih _ _
theorem mfI_eq {N M : Nat → Int} (h : RG N M) {f : Int} (h0 : 0 ≤ f) (h1 : f < N 0) : ∀ (n : Nat) (k : Int) (x : Int64), k + n = 9 → 0 ≤ k → mfI N f n k x = mhI M f n k x := by
  intro n
  induction n with
  | zero => intro k x _ _; rfl
  | succ n ih =>
    intro k x h2 h3
    unfold mfI mhI
    rw [h.1.2.2.2.2 f k h0 h1 h3 (by omega)]
    exact ih _ _ (by omega) (by omega)
theorem dgF_eq {N M : Nat → Int} (h : RG N M) : ∀ (n : Nat) (f : Int) (x : Int64), f + n = N 0 → 0 ≤ f → dgF N n f x = mhA M n f x := by
  intro n
  induction n with
  | zero => intro f x _ _; rfl
  | succ n ih =>
    intro f x h1 h2
    unfold dgF mhA mfF mhF
    rw [mfI_eq h h2 (by omega) 9 0 x (by omega) (by omega), RG_NL h h2 (by omega) (by omega), RG_PR h h2 (by omega)]
    exact ih _ _ (by omega) (by omega)
theorem mtI_eq {N M : Nat → Int} (h : RG N M) {t : Int} (h0 : 0 ≤ t) (h1 : t < 4) : ∀ (n : Nat) (k : Int) (x : Int64), k + n = 5 → 0 ≤ k → mtI N t n k x = mpI M t n k x := by
  intro n
  induction n with
  | zero => intro k x _ _; rfl
  | succ n ih =>
    intro k x h2 h3
    unfold mtI mpI
    rw [h.1.2.2.2.1 t k h0 h1 h3 (by omega)]
    exact ih _ _ (by omega) (by omega)
theorem dgW_eq {N M : Nat → Int} (h : RG N M) : ∀ (n : Nat) (t : Int) (W : tWY) (Z : Nat → Int) (x : Int64), t + n = 4 → 0 ≤ t → okWs W → (dgW N n t W x).2 = (dmW M n t Z x).2 ∧ okWs (dgW N n t W x).1 := by
  intro n
  induction n with
  | zero => intro t W Z x _ _ hw; exact ⟨rfl, hw⟩
  | succ n ih =>
    intro t W Z x h1 h2 hw
    have e := fun k (a : 0 ≤ k) (b : k < 5) => h.1.2.2.2.1 t k h2 (by omega) a b
    have q := RG_T h t h2 (by omega)
    unfold okTp at q
    unfold dgW dmW
    rw [mtI_eq h h2 (by omega) 5 0 x (by omega) (by omega), e 0 (by omega) (by omega), e 1 (by omega) (by omega), e 2 (by omega) (by omega)]
    rw [iwF_eq h q.1 q.2.1 q.2.2 hw Z 8 0 (ii 0) (by omega)]
    exact ih _ _ _ _ (by omega) (by omega) (wFar_ok h.2.1 q.2.1 (by omega) hw).1
theorem mwI_eq {N M : Nat → Int} (h : RG N M) {A F : Nat → Int} (hA : ∀ (B : Nat → Int) (k : Nat), k < 8 → A k = unB (spF M 0 30 B k)) (hF : ∀ (Z : Nat → Int) (j : Int), 0 ≤ j → j < 8 → F j.toNat = unB (mPay M 0 30 Z (1540 * j + 400).toNat)) : ∀ (n : Nat) (i : Int) (S B Z : Nat → Int) (x : Int64), i + n = 8 → 1 ≤ i → (mwI N A F n i S x).2 = (dmV M n i B Z x).2.2 := by
  intro n
  induction n with
  | zero => intro i S B Z x _ _; rfl
  | succ n ih =>
    intro i S B Z x h1 h2
    unfold mwI dmV
    have e3 := fStt_eq h (S := S) (B := spF M 0 30 B) (j := i) (l := 600) (by omega) (by omega) (k := 0) (by omega)
    rw [hA B i.toNat (by omega), hF Z i (by omega) (by omega), e3]
    exact ih _ _ _ _ _ (by omega) (by omega)
theorem wFar_1 (N : Nat → Int) (i m lim : Int) (W : tWY) : (wFar N i m lim W).1 = W.1 := rfl
def mwG (N : Nat → Int) (W2 : tWY) (n : Nat) (h : Int64) : tWY × Int64 := ((W2.1, (mwI N W2.1 W2.2.2.1 n 1 W2.2.1 h).1, W2.2.2), (mwI N W2.1 W2.2.2.1 n 1 W2.2.1 h).2)
theorem mwF_G (N : Nat → Int) (W : tWY) (h : Int64) : mwF N W h = mwG N (wFar N 0 30 400 (fArr N W.1 0 30, W.2)) 7 h := rfl
theorem mwG_ok {N : Nat → Int} {W2 : tWY} {n : Nat} {x : Int64} (h : okWs W2) : okWs (mwG N W2 n x).1 := h
theorem mwG_2 (N : Nat → Int) (W2 : tWY) (n : Nat) (x : Int64) : (mwG N W2 n x).2 = (mwI N W2.1 W2.2.2.1 n 1 W2.2.1 x).2 := rfl
theorem mwF_eq {N M : Nat → Int} (h : RG N M) {W : tWY} (hw : okWs W) (B Z : Nat → Int) (x : Int64) : (mwF N W x).2 = (dmV M 7 1 B Z x).2.2 ∧ okWs (mwF N W x).1 := by
  have w3 : okWs (fArr N W.1 0 30, W.2) := hw
  have w4 := (wFar_ok h.2.1 (i := 0) (m := 30) (lim := 400) (by omega) (by omega) w3).1
  have hA : ∀ (B : Nat → Int) (k : Nat), k < 8 → (wFar N 0 30 400 (fArr N W.1 0 30, W.2)).1 k = unB (spF M 0 30 B k) := by
    intro B k hk
    rw [wFar_1]
    exact fArr_un h (A := W.1) (B := B) (i := 0) (m := 30) (by omega) (by omega) hk
  have hF : ∀ (Z : Nat → Int) (j : Int), 0 ≤ j → j < 8 → (wFar N 0 30 400 (fArr N W.1 0 30, W.2)).2.2.1 j.toNat = unB (mPay M 0 30 Z (1540 * j + 400).toNat) := by
    intro Z j a b
    exact wFar_eq h (i := 0) (m := 30) (lim := 400) (by omega) (by omega) (by omega) (by omega) w3 Z (j := j) ⟨a, b⟩
  rw [mwF_G]
  generalize wFar N 0 30 400 (fArr N W.1 0 30, W.2) = W2 at w4 hA hF ⊢
  rw [mwG_2]
  exact ⟨mwI_eq h hA hF 7 1 _ B Z x (by omega) (by omega), mwG_ok w4⟩
theorem jpI_eq {A B : Nat → Int} (hA : okR8 A) (h : ∀ k : Nat, k < 8 → eA A k = B k) (i : Int) : ∀ (n : Nat) (t p : Int), t + n = 8 → 0 ≤ t → jpI A i n t p = jmI B i n t p := by
  intro n
  induction n with
  | zero => intro t p _ _; rfl
  | succ n ih =>
    intro t p h1 h2
    unfold jpI jmI
    have e : (t ≠ i ∧ A t.toNat ≠ -1) = (t ≠ i ∧ B t.toNat ≠ 1000000) := by
      rw [← h t.toNat (by omega)]
      rcases eA_in hA (k := t.toNat) (by omega) with ⟨a, b⟩ | ⟨a, b, b2, b3⟩
      · rw [a, b]
        exact propext ⟨fun q => absurd rfl q.2, fun q => absurd rfl q.2⟩
      · exact propext ⟨fun q => ⟨q.1, by omega⟩, fun q => ⟨q.1, a⟩⟩
    have e2 : (if t ≠ i ∧ A t.toNat ≠ -1 then p + 1 else p) = (if t ≠ i ∧ B t.toNat ≠ 1000000 then p + 1 else p) := by
      by_cases q : t ≠ i ∧ A t.toNat ≠ -1
      · rw [if_pos q, if_pos (e ▸ q)]
      · rw [if_neg q, if_neg (e ▸ q)]
    rw [e2]
    exact ih _ _ (by omega) (by omega)
theorem jpO_eq {N M : Nat → Int} (h : RG N M) : ∀ (n : Nat) (i : Int) (A B : Nat → Int) (p : Int), i + n = 8 → 0 ≤ i → (jpO N n i A p).2 = (jmO M n i B p).2 := by
  intro n
  induction n with
  | zero => intro i A B p _ _; rfl
  | succ n ih =>
    intro i A B p h1 h2
    unfold jpO jmO
    rw [jpI_eq (fArr_ok h.2.1 (by omega)) (fArr_eq h (A := A) (B := B) (i := i) (m := 0) (by omega) (by omega)) i 8 0 p (by omega) (by omega)]
    exact ih _ _ _ _ (by omega) (by omega)
theorem shB_all : ∀ p : Nat, p < 65 → shB p = (shr p).toInt64 := by decide +kernel
theorem xtI_eq {C C' : Nat → Int} {ln : Int} (h : ∀ k : Nat, (k : Int) < ln → C k = C' k) : ∀ (n : Nat) (k : Int) (x : Int64), k + n = ln → 0 ≤ k → xtI C n k x = xtI C' n k x := by
  intro n
  induction n with
  | zero => intro k x _ _; rfl
  | succ n ih =>
    intro k x h1 h2
    unfold xtI
    rw [h k.toNat (by omega)]
    exact ih _ _ (by omega) (by omega)
theorem okWs_1 {W : tWY} (A : Nat → Int) (h : okWs W) : okWs (A, W.2) := h
theorem dgS_eq {N M : Nat → Int} (h : RG N M) (x : Int64) : dgS N 2 0 x = mx (mx x (iL (M 0))) (iL (M 1)) := by
  unfold dgS dgS dgS
  have a : N (1 + 0 : Int).toNat = M 0 := h.1.2.1
  have b : N (1 + (0 + 1) : Int).toNat = M 1 := h.1.2.2.1
  rw [a, b]
def dgPn (N : Nat → Int) (T : tFT) (n : Nat) (b : tWY × Int64) : tWY × Int64 := (((jpO N n 0 b.1.1 0).1, b.1.2), xtF T.1 T.2.2.1 (mx b.2 (shB (jpO N n 0 b.1.1 0).2)))
theorem dgPn_2 (N : Nat → Int) (T : tFT) (n : Nat) (b : tWY × Int64) : (dgPn N T n b).2 = xtF T.1 T.2.2.1 (mx b.2 (shB (jpO N n 0 b.1.1 0).2)) := rfl
theorem dgPn_1 (N : Nat → Int) (T : tFT) (n : Nat) (b : tWY × Int64) (h : okWs b.1) : okWs (dgPn N T n b).1 := h
theorem dgP_n (N : Nat → Int) (T : tFT) (b : tWY × Int64) : dgP N T b = dgPn N T 8 b := rfl
def dmPn (N C : Nat → Int) (ln : Int) (n : Nat) (v : tBZ) : tBZ := ((jmO N n 0 v.1 0).1, v.2.1, xtF C ln (mx v.2.2 (shr (jmO N n 0 v.1 0).2).toInt64))
theorem dmPn_2 (N C : Nat → Int) (ln : Int) (n : Nat) (v : tBZ) : (dmPn N C ln n v).2.2 = xtF C ln (mx v.2.2 (shr (jmO N n 0 v.1 0).2).toInt64) := rfl
theorem dmP_n (N C : Nat → Int) (ln : Int) (v : tBZ) : dmP N C ln v = dmPn N C ln 8 v := rfl
theorem dgP_eq {N M : Nat → Int} (h : RG N M) {T : tFT} {C : Nat → Int} {ln : Int} (hl : 0 ≤ ln) (hT : T.2.2.1 = ln) (hC : ∀ k : Nat, (k : Int) < ln → T.1 k = C k) {b : tWY × Int64} {v : tBZ} (e2 : b.2 = v.2.2) (hb : okWs b.1) : (dgP N T b).2 = (dmP M C ln v).2.2 ∧ okWs (dgP N T b).1 := by
  rw [dgP_n, dmP_n, dgPn_2, dmPn_2]
  refine ⟨?_, dgPn_1 _ _ _ _ hb⟩
  have e3 := jpO_eq h 8 0 b.1.1 v.1 0 (by omega) (by omega)
  have e4 := jmO_in M 8 0 v.1 0
  rw [e3, e2, hT]
  generalize (jmO M 8 0 v.1 0).2 = p at e4 ⊢
  have e5 := shB_all p.toNat (by omega)
  rw [show ((p.toNat : Nat) : Int) = p by omega] at e5
  rw [e5]
  unfold xtF
  exact xtI_eq hC _ _ _ (by omega) (by omega)
theorem dgQ_1 (N : Nat → Int) (T : tFT) (W : tWY) (x : Int64) : dgQ N T (W, x) = dgP N T (mwF N W x) := rfl
theorem dmQ_1 (N C : Nat → Int) (ln : Int) (B Z : Nat → Int) (x : Int64) : dmQ N C ln B (Z, x) = dmP N C ln (dmV N 7 1 B Z x) := rfl
theorem dgQ_eq {N M : Nat → Int} (h : RG N M) {T : tFT} {C : Nat → Int} {ln : Int} (hl : 0 ≤ ln) (hT : T.2.2.1 = ln) (hC : ∀ k : Nat, (k : Int) < ln → T.1 k = C k) (B : Nat → Int) {W : tWY} {Z : Nat → Int} {x : Int64} (ha : okWs W) : (dgQ N T (W, x)).2 = (dmQ M C ln B (Z, x)).2.2 ∧ okWs (dgQ N T (W, x)).1 := by
  rw [dgQ_1, dmQ_1]
  have q := mwF_eq h ha B Z x
  generalize mwF N W x = b at q ⊢
  generalize dmV M 7 1 B Z x = v at q ⊢
  exact dgP_eq h hl hT hC q.1 q.2
theorem pr2 {α β : Type} {a : α × β} {x : β} (h : a.2 = x) : a = (a.1, x) := by rw [← h]
theorem dgH_eq {N M : Nat → Int} (h : RG N M) (sc : Int) (x : Int64) : dgF N (N 0).toNat 0 (dgS N 2 0 (dgT N sc 5 0 x)) = mhA M (M 2).toNat 0 (mx (mx (dmT M sc 5 0 x) (iL (M 0))) (iL (M 1))) := by
  have h0 := h.1.1
  have hW := h.2.1.1
  rw [dgT_eq h, dgS_eq h, dgF_eq h (N 0).toNat 0 _ (by omega) (by omega), h0]
theorem dgX_eq {N M : Nat → Int} (h : RG N M) {T : tFT} {W : tWY} (hw : okWs W) {C : Nat → Int} {ln : Int} (hl : 0 ≤ ln) (hT : T.2.2.1 = ln) (hC : ∀ k : Nat, (k : Int) < ln → T.1 k = C k) (B Z : Nat → Int) (x : Int64) : (dgQ N T (dgW N 4 0 W x)).2 = (dmQ M C ln B (dmW M 4 0 Z x)).2.2 ∧ okWs (dgQ N T (dgW N 4 0 W x)).1 := by
  have q := dgW_eq h 4 0 W Z x (by omega) (by omega) hw
  generalize dgW N 4 0 W x = a at q ⊢
  generalize dmW M 4 0 Z x = c at q ⊢
  obtain ⟨W', x1⟩ := a
  obtain ⟨Z', x2⟩ := c
  have e : x1 = x2 := q.1
  subst e
  exact dgQ_eq h hl hT hC B q.2
theorem dgO_1 (N : Nat → Int) (T : tFT) (W : tWY) (sc : Int) : dgO N T W sc = dgQ N T (dgW N 4 0 W (dgF N (N 0).toNat 0 (dgS N 2 0 (dgT N sc 5 0 (Int64.ofNat 3301))))) := rfl
theorem dmO_1 (N : Nat → Int) (st : Int) (C : Nat → Int) (ln : Int) (B Z : Nat → Int) : dmO N st C ln B Z = dmQ N C ln B (dmW N 4 0 Z (mhA N (N 2).toNat 0 (mx (mx (dmT N st 5 0 (Int64.ofNat 3301)) (iL (N 0))) (iL (N 1))))) := rfl
theorem dgO_eq {N M : Nat → Int} (h : RG N M) {T : tFT} {W : tWY} (hw : okWs W) {sc : Int} {C : Nat → Int} {ln : Int} (hl : 0 ≤ ln) (hT : T.2.2.1 = ln) (hC : ∀ k : Nat, (k : Int) < ln → T.1 k = C k) (B Z : Nat → Int) : (dgO N T W sc).2 = (dmO M sc C ln B Z).2.2 ∧ okWs (dgO N T W sc).1 := by
  rw [dgO_1, dmO_1, dgH_eq h]
  exact dgX_eq h hw hl hT hC B Z _
end EQD
