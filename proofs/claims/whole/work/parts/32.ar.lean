noncomputable section EQA
/-! arrivals and starts: the class's seven rounds are the model's rounds without an end -/
def aSt (M : Nat → Int) (f x : Int) : Int := if mNL M f x = -1 then 1000000 else mNL M f x + (M (3 + 9 * f + 4).toNat)
def aQ (M : Nat → Int) : tRx := ((M 2).toNat, fun f => (M (3 + 9 * f + 0).toNat).toNat, fun f => (M (3 + 9 * f + 1).toNat).toNat, aSt M)
theorem lvA_0 {M : Nat → Int} {f t : Int} (hg : okG M f) (h : lvA M f t) : 0 ≤ t ∧ t ≤ 1439 := by
  have h1 := h.1
  have h2 := h.2.1
  have h3 := hg.1.1
  omega
theorem aQ_ok {M : Nat → Int} (hX : okX M) : rOK (aQ M) := by
  intro f h0 h1
  have h1 : f < ((M 2).toNat : Int) := h1
  obtain ⟨g1, g2⟩ := hX.2.2 f h0 (by omega)
  have k4 := g1.2.2.1
  have e : ∀ x, (mNL M f x = -1 ∧ aSt M f x = 1000000 ∧ ∀ t, x ≤ t → ¬ lvA M f t) ∨ (x ≤ mNL M f x ∧ 0 ≤ mNL M f x ∧ mNL M f x ≤ 1439 ∧ aSt M f x = mNL M f x + (M (3 + 9 * f + 4).toNat) ∧ lvA M f (mNL M f x) ∧ ∀ t, x ≤ t → lvA M f t → mNL M f x ≤ t) := by
    intro x
    unfold aSt
    rcases mNL_P M f x with ⟨a, b⟩ | ⟨a, b, c⟩
    · exact Or.inl ⟨a, if_pos a, b⟩
    · have := lvA_0 g1 b
      exact Or.inr ⟨a, this.1, this.2, if_neg (by omega), b, c⟩
  refine ⟨⟨?_, ?_⟩, fun x y hxy => ?_, fun x => ?_, fun x hx => ?_⟩
  · show (M (3 + 9 * f + 0).toNat).toNat < 8
    omega
  · show (M (3 + 9 * f + 1).toNat).toNat < 8
    omega
  · show aSt M f x ≤ aSt M f y
    rcases e y with ⟨-, b, -⟩ | ⟨a, a2, a3, b, b2, -⟩
    · rcases e x with ⟨-, d, -⟩ | ⟨-, -, d2, d, -, -⟩ <;> omega
    · rcases e x with ⟨-, -, d⟩ | ⟨-, -, -, d, -, d2⟩
      · exact absurd b2 (d _ (by omega))
      · have := d2 _ (show x ≤ mNL M f y by omega) b2
        omega
  · show aSt M f x ≤ 1000000
    rcases e x with ⟨-, d, -⟩ | ⟨-, -, d2, d, -, -⟩ <;> omega
  · have hx : aSt M f x < 1000000 := hx
    show x < aSt M f x
    rcases e x with ⟨-, d, -⟩ | ⟨d3, -, d2, d, -, -⟩ <;> omega
theorem mNL_big {M : Nat → Int} {f x : Int} (h : 1439 < x) : mNL M f x = -1 := by
  unfold mNL
  rw [show (1440 - x).toNat = 0 by omega]
  rfl
theorem thR_aSt (M B : Nat → Int) (f : Int) : thR M B f = aSt M f (B (M (3 + 9 * f + 0).toNat).toNat) := by
  unfold thR aSt
  by_cases h : B (M (3 + 9 * f + 0).toNat).toNat ≤ 1439
  · rw [if_pos h]
  · rw [if_neg h, if_pos rfl, if_pos (mNL_big (by omega))]
theorem spSt_as {M : Nat → Int} (hX : okX M) : gAs (spSt M) (aQ M) okB8 (fun B => B) := by
  intro B f hB h0 h1
  have h1' : f < ((M 2).toNat : Int) := h1
  unfold spSt
  by_cases h : thR M B f < B (M (3 + 9 * f + 1).toNat).toNat
  · rw [if_pos h]
    have h2 := (spSt_good hX).2 B f ((M (3 + 9 * f + 1).toNat).toNat, thR M B f) hB h0 h1' (by unfold spSt; rw [if_pos h])
    refine ⟨h2.1, ?_⟩
    rw [thR_aSt] at h ⊢
    show su B (M (3 + 9 * f + 1).toNat).toNat (aSt M f (B (M (3 + 9 * f + 0).toNat).toNat)) = rS (aQ M) f B
    unfold rS
    exact (if_pos h).symm
  · rw [if_neg h]
    rw [thR_aSt] at h
    exact Int.not_lt.mp h
def eA (A : Nat → Int) : Nat → Int := fun i => if A i = -1 then 1000000 else A i
theorem eA_su {A : Nat → Int} {k : Nat} {v : Int} (h : v ≠ -1) : eA (su A k v) = su (eA A) k v := by
  funext i
  unfold eA
  by_cases h1 : i = k
  · subst h1
    rw [su_s, su_s, if_neg h]
  · rw [su_n h1, su_n h1]
theorem eA_in {A : Nat → Int} (hA : okR8 A) {k : Nat} (hk : k < 8) : (A k = -1 ∧ eA A k = 1000000) ∨ (A k ≠ -1 ∧ eA A k = A k ∧ 0 ≤ A k ∧ A k ≤ 2000) := by
  have := hA k hk
  unfold eA
  by_cases h : A k = -1
  · exact Or.inl ⟨h, if_pos h⟩
  · exact Or.inr ⟨h, if_neg h, by omega, by omega⟩
theorem csN_rS {N M A : Nat → Int} (h : RG N M) {f : Int} (h0 : 0 ≤ f) (h1 : f < N 0) (hA : okR8 A) : eA (csN A N f).2 = rS (aQ M) f (eA A) ∧ ((csN A N f).1 = 0 → (csN A N f).2 = A) := by
  obtain ⟨g1, g2⟩ := RG_G h h0 h1
  have k4 := g1.2.2.1
  have e := fun k a b => h.1.2.2.2.2 f k h0 h1 a b
  unfold csN rS
  rw [e 0 (by omega) (by omega), e 1 (by omega) (by omega), e 4 (by omega) (by omega)]
  show eA _ = (if aSt M f (eA A (M (3 + 9 * f + 0).toNat).toNat) < eA A (M (3 + 9 * f + 1).toNat).toNat then su (eA A) (M (3 + 9 * f + 1).toNat).toNat (aSt M f (eA A (M (3 + 9 * f + 0).toNat).toNat)) else eA A) ∧ _
  have c0 := eA_in hA (k := (M (3 + 9 * f + 0).toNat).toNat) (by omega)
  have c1 := eA_in hA (k := (M (3 + 9 * f + 1).toNat).toNat) (by omega)
  have none : (if A (M (3 + 9 * f + 0).toNat).toNat = -1 then -1 else NL N f (A (M (3 + 9 * f + 0).toNat).toNat)) = -1 → aSt M f (eA A (M (3 + 9 * f + 0).toNat).toNat) = 1000000 := by
    intro q
    unfold aSt
    rcases c0 with ⟨a, b⟩ | ⟨a, b, b2, b3⟩
    · rw [b, if_pos (mNL_big (by omega))]
    · rw [if_neg a, RG_NL h h0 h1 b2] at q
      rw [b, if_pos q]
  by_cases hl : (if A (M (3 + 9 * f + 0).toNat).toNat = -1 then -1 else NL N f (A (M (3 + 9 * f + 0).toNat).toNat)) = -1
  · dsimp only
    rw [if_pos hl, none hl, if_neg (by omega)]
    exact ⟨rfl, fun _ => rfl⟩
  · have hs : A (M (3 + 9 * f + 0).toNat).toNat ≠ -1 := fun q => hl (if_pos q)
    have hs2 : eA A (M (3 + 9 * f + 0).toNat).toNat = A (M (3 + 9 * f + 0).toNat).toNat ∧ 0 ≤ A (M (3 + 9 * f + 0).toNat).toNat := by omega
    dsimp only
    rw [if_neg hl]
    rw [if_neg hs] at hl ⊢
    have en := RG_NL h h0 h1 hs2.2
    rw [en] at hl ⊢
    have hst : aSt M f (eA A (M (3 + 9 * f + 0).toNat).toNat) = mNL M f (A (M (3 + 9 * f + 0).toNat).toNat) + (M (3 + 9 * f + 4).toNat) := by
      unfold aSt
      rw [hs2.1, if_neg hl]
    rw [hst]
    have hn : 0 ≤ mNL M f (A (M (3 + 9 * f + 0).toNat).toNat) ∧ mNL M f (A (M (3 + 9 * f + 0).toNat).toNat) ≤ 1439 := by
      rcases mNL_in M f (A (M (3 + 9 * f + 0).toNat).toNat) hs2.2 with q | q
      · exact absurd q hl
      · omega
    by_cases h2 : A (M (3 + 9 * f + 1).toNat).toNat ≠ -1 ∧ A (M (3 + 9 * f + 1).toNat).toNat ≤ mNL M f (A (M (3 + 9 * f + 0).toNat).toNat) + (M (3 + 9 * f + 4).toNat)
    · rw [if_pos h2, if_neg (by omega)]
      exact ⟨rfl, fun _ => rfl⟩
    · rw [if_neg h2, if_pos (by omega)]
      exact ⟨eA_su (by omega), fun q => by cases q⟩
theorem faIn_one (N : Nat → Int) : ∀ (n : Nat) (f : Int) (A : Nat → Int), (faIn N n f A 1).2 = 1 := by
  intro n
  induction n with
  | zero => intro f A; rfl
  | succ n ih =>
    intro f A
    unfold faIn
    split
    · exact ih _ _
    · exact ih _ _
theorem faIn_rIn {N M : Nat → Int} (h : RG N M) : ∀ (n : Nat) (f : Int) (A : Nat → Int) (b : Int), f + n = N 0 → 0 ≤ f → okR8 A → eA (faIn N n f A b).1 = rIn (aQ M) n f (eA A) ∧ (b = 0 → (faIn N n f A b).2 = 0 → (faIn N n f A b).1 = A) := by
  intro n
  induction n with
  | zero => intro f A b _ _ _; exact ⟨rfl, fun _ _ => rfl⟩
  | succ n ih =>
    intro f A b h1 h2 h3
    have h4 := csN_rS h h2 (by omega) h3
    have h5 := csN_ok (f := f) h3 (h.2.1.2.2 f h2 (by omega)).1
    have h6 := ih (f + 1) (csN A N f).2 (if (csN A N f).1 = 0 then b else 1) (by omega) (by omega) h5
    unfold faIn rIn
    rw [← h4.1]
    refine ⟨h6.1, fun hb hz => ?_⟩
    by_cases h7 : (csN A N f).1 = 0
    · rw [if_pos h7] at h6 hz ⊢
      rw [h6.2 hb hz]
      exact h4.2 h7
    · rw [if_neg h7, faIn_one] at hz
      cases hz
theorem rR_fix {q : tRx} {D : Nat → Int} (h : rIn q q.1 0 D = D) : ∀ n : Nat, rR q n D = D := by
  intro n
  induction n with
  | zero => rfl
  | succ n ih => unfold rR; rw [h]; exact ih
theorem faOut_rR {N M : Nat → Int} (h : RG N M) : ∀ (n : Nat) (A : Nat → Int) (b : Int), okR8 A → (b = 0 → rIn (aQ M) (aQ M).1 0 (eA A) = eA A) → eA (faOut N n A b) = rR (aQ M) n (eA A) := by
  have hc : (aQ M).1 = (N 0).toNat := by show (M 2).toNat = (N 0).toNat; rw [h.1.1]
  have hN := h.2.1.1
  intro n
  induction n with
  | zero => intro A b _ _; rfl
  | succ n ih =>
    intro A b h1 h2
    have h3 := faIn_rIn h (N 0).toNat 0 A 0 (by omega) (by omega) h1
    unfold faOut
    by_cases h4 : b = 0
    · rw [if_pos h4]
      exact (rR_fix (h2 h4) _).symm
    · rw [if_neg h4]
      unfold rR
      rw [hc, ← h3.1]
      refine ih _ _ (faIn_ok h.2.1 _ _ _ _ (by omega) (by omega) h1) (fun h5 => ?_)
      have h6 := h3.2 rfl h5
      rw [h6] at h3 ⊢
      rw [hc]
      exact h3.1.symm
theorem fArr_eq {N M : Nat → Int} (h : RG N M) {A B : Nat → Int} {i m : Int} (hi : 0 ≤ i ∧ i < 8) (hm : 0 ≤ m ∧ m ≤ 1439) : ∀ k : Nat, k < 8 → eA (fArr N A i m) k = spF M i m B k := by
  have hX := RG_X h
  have hq := aQ_ok hX
  have h1 := gFix_end (spSt_good hX) (flG_ok B i m (by omega))
  have h2 := gAs_end hq (spSt_as hX) (flG_ok B i m (by omega)) h1.1
  have e0 : ∀ k : Nat, k < 8 → flG B i m 1000000 8 k = eA (su (fillN 8 (-1) A) i.toNat m) k := by
    intro k hk
    unfold flG
    rw [eA_su (by omega), if_pos (show (k : Int) < 8 by omega)]
    by_cases h3 : (k : Int) = i
    · rw [if_pos h3, show k = i.toNat by omega, su_s]
    · rw [if_neg h3, su_n (show k ≠ i.toNat by omega)]
      unfold eA
      rw [if_pos (if_pos hk)]
  unfold fArr
  rw [faOut_rR h 7 _ 1 (okR8_start A i m (by omega)) (fun q => by cases q)]
  refine rSeven hq (fun k hk => ?_) h2.1 (fun k hk => ?_) (rSd_cong hq e0 h2.2.2)
  · rw [← e0 k hk]
    exact (flG_ok B i m (by omega) k hk).2
  · rw [← e0 k hk]
    exact h2.2.1 k hk
theorem fArr_un {N M : Nat → Int} (h : RG N M) {A B : Nat → Int} {i m : Int} (hi : 0 ≤ i ∧ i < 8) (hm : 0 ≤ m ∧ m ≤ 1439) {k : Nat} (hk : k < 8) : fArr N A i m k = unB (spF M i m B k) := by
  have h1 := fArr_eq h (A := A) (B := B) hi hm k hk
  rw [← h1]
  unfold unB
  rcases eA_in (fArr_ok h.2.1 (A := A) (i := i) (m := m) (by omega)) hk with ⟨a, b⟩ | ⟨a, b, b2, b3⟩
  · rw [b, if_pos rfl]; exact a
  · rw [b, if_neg (by omega)]
/-! starts -/
def sSt (M : Nat → Int) (f x : Int) : Int := if mLL M f (-x - (M (3 + 9 * f + 4).toNat)) = -1 then 1000000 else -mLL M f (-x - (M (3 + 9 * f + 4).toNat))
def sQ (M : Nat → Int) : tRx := ((M 2).toNat, fun f => (M (3 + 9 * f + 1).toNat).toNat, fun f => (M (3 + 9 * f + 0).toNat).toNat, sSt M)
theorem sQ_ok {M : Nat → Int} (hX : okX M) : rOK (sQ M) := by
  intro f h0 h1
  have h1 : f < ((M 2).toNat : Int) := h1
  obtain ⟨g1, g2⟩ := hX.2.2 f h0 (by omega)
  have k4 := g1.2.2.1
  have e : ∀ x, (sSt M f x = 1000000 ∧ ∀ t, t ≤ -x - (M (3 + 9 * f + 4).toNat) → ¬ lvA M f t) ∨ (0 ≤ mLL M f (-x - (M (3 + 9 * f + 4).toNat)) ∧ mLL M f (-x - (M (3 + 9 * f + 4).toNat)) ≤ -x - (M (3 + 9 * f + 4).toNat) ∧ sSt M f x = -mLL M f (-x - (M (3 + 9 * f + 4).toNat)) ∧ lvA M f (mLL M f (-x - (M (3 + 9 * f + 4).toNat))) ∧ ∀ t, t ≤ -x - (M (3 + 9 * f + 4).toNat) → lvA M f t → t ≤ mLL M f (-x - (M (3 + 9 * f + 4).toNat))) := by
    intro x
    unfold sSt
    rcases mLL_P g1 (-x - (M (3 + 9 * f + 4).toNat)) with ⟨a, b⟩ | ⟨a0, a, b, c⟩
    · exact Or.inl ⟨if_pos a, b⟩
    · exact Or.inr ⟨a0, a, if_neg (by omega), b, c⟩
  refine ⟨⟨?_, ?_⟩, fun x y hxy => ?_, fun x => ?_, fun x hx => ?_⟩
  · show (M (3 + 9 * f + 1).toNat).toNat < 8
    omega
  · show (M (3 + 9 * f + 0).toNat).toNat < 8
    omega
  · show sSt M f x ≤ sSt M f y
    rcases e y with ⟨b, -⟩ | ⟨a, a2, b, b2, -⟩
    · rcases e x with ⟨d, -⟩ | ⟨d1, -, d, -, -⟩ <;> omega
    · rcases e x with ⟨-, d⟩ | ⟨-, -, d, -, d2⟩
      · exact absurd b2 (d _ (by omega))
      · have := d2 _ (show mLL M f (-y - (M (3 + 9 * f + 4).toNat)) ≤ -x - (M (3 + 9 * f + 4).toNat) by omega) b2
        omega
  · show sSt M f x ≤ 1000000
    rcases e x with ⟨d, -⟩ | ⟨d1, -, d, -, -⟩ <;> omega
  · have hx : sSt M f x < 1000000 := hx
    show x < sSt M f x
    rcases e x with ⟨d, -⟩ | ⟨-, d2, d, -, -⟩ <;> omega
def eS (S : Nat → Int) : Nat → Int := fun i => if S i = -1 then 1000000 else -S i
theorem eS_su {S : Nat → Int} {k : Nat} {v : Int} (h : v ≠ -1) : eS (su S k v) = su (eS S) k (-v) := by
  funext i
  unfold eS
  by_cases h1 : i = k
  · subst h1
    rw [su_s, su_s, if_neg h]
  · rw [su_n h1, su_n h1]
theorem eS_in (S : Nat → Int) (k : Nat) : (S k = -1 ∧ eS S k = 1000000) ∨ (S k ≠ -1 ∧ eS S k = -S k) := by
  unfold eS
  by_cases h : S k = -1
  · exact Or.inl ⟨h, if_pos h⟩
  · exact Or.inr ⟨h, if_neg h⟩
theorem mLL_neg {M : Nat → Int} {f x : Int} (h : x < 0) : mLL M f x = -1 := by
  rcases mLL_in M f x with q | q
  · exact q
  · omega
theorem sSt_e {M S : Nat → Int} {f : Int} (h4 : 1 ≤ (M (3 + 9 * f + 4).toNat)) : (tLS M S f = -1 ∧ sSt M f (eS S (M (3 + 9 * f + 1).toNat).toNat) = 1000000) ∨ (0 ≤ tLS M S f ∧ sSt M f (eS S (M (3 + 9 * f + 1).toNat).toNat) = -tLS M S f) := by
  unfold tLS sSt
  rcases eS_in S (M (3 + 9 * f + 1).toNat).toNat with ⟨a, b⟩ | ⟨a, b⟩
  · rw [if_pos a, b, if_pos (mLL_neg (by omega))]
    exact Or.inl ⟨rfl, rfl⟩
  · rw [if_neg a, b, show -(-S (M (3 + 9 * f + 1).toNat).toNat) - (M (3 + 9 * f + 4).toNat) = S (M (3 + 9 * f + 1).toNat).toNat - (M (3 + 9 * f + 4).toNat) by omega]
    rcases mLL_in M f (S (M (3 + 9 * f + 1).toNat).toNat - (M (3 + 9 * f + 4).toNat)) with q | q
    · rw [if_pos q]; exact Or.inl ⟨q, rfl⟩
    · rw [if_neg (by omega)]; exact Or.inr ⟨q.1, rfl⟩
theorem sS_rS {M S : Nat → Int} {f : Int} (h4 : 1 ≤ (M (3 + 9 * f + 4).toNat)) (hd : -1 ≤ S (M (3 + 9 * f + 0).toNat).toNat) : (¬ S (M (3 + 9 * f + 0).toNat).toNat < tLS M S f ∧ eS S (M (3 + 9 * f + 0).toNat).toNat ≤ sSt M f (eS S (M (3 + 9 * f + 1).toNat).toNat) ∧ rS (sQ M) f (eS S) = eS S) ∨ (S (M (3 + 9 * f + 0).toNat).toNat < tLS M S f ∧ eS (su S (M (3 + 9 * f + 0).toNat).toNat (tLS M S f)) = rS (sQ M) f (eS S)) := by
  have e : rS (sQ M) f (eS S) = (if sSt M f (eS S (M (3 + 9 * f + 1).toNat).toNat) < eS S (M (3 + 9 * f + 0).toNat).toNat then su (eS S) (M (3 + 9 * f + 0).toNat).toNat (sSt M f (eS S (M (3 + 9 * f + 1).toNat).toNat)) else eS S) := rfl
  rw [e]
  have c0 := eS_in S (M (3 + 9 * f + 0).toNat).toNat
  rcases sSt_e (S := S) h4 with ⟨a, b⟩ | ⟨a, b⟩
  · left
    rw [b, if_neg (by omega)]
    exact ⟨by omega, by omega, rfl⟩
  · rw [b]
    by_cases h : S (M (3 + 9 * f + 0).toNat).toNat < tLS M S f
    · right
      rw [if_pos (by omega)]
      exact ⟨h, eS_su (by omega)⟩
    · left
      rw [if_neg (by omega)]
      exact ⟨h, by omega, rfl⟩
theorem lsSt_as {M : Nat → Int} (hX : okX M) : gAs (lsSt M) (sQ M) okS8 eS := by
  intro B f hB h0 h1
  have h1' : f < ((M 2).toNat : Int) := h1
  obtain ⟨g1, g2⟩ := hX.2.2 f h0 (by omega)
  have hd := hB (M (3 + 9 * f + 0).toNat).toNat (by omega)
  unfold lsSt
  rcases sS_rS (S := B) g1.2.2.1.1 hd.1 with ⟨a, b, -⟩ | ⟨a, b⟩
  · rw [if_neg a]
    exact b
  · rw [if_pos a]
    have h2 := (lsSt_good hX).2 B f ((M (3 + 9 * f + 0).toNat).toNat, tLS M B f) hB h0 h1' (by unfold lsSt; rw [if_pos a])
    exact ⟨h2.1, b⟩
theorem slN_rS {N M S : Nat → Int} (h : RG N M) {f : Int} (h0 : 0 ≤ f) (h1 : f < N 0) (hS : okR8 S) : eS (slN S N f).2 = rS (sQ M) f (eS S) ∧ ((slN S N f).1 = 0 → (slN S N f).2 = S) := by
  obtain ⟨g1, g2⟩ := RG_G h h0 h1
  have e := fun k a b => h.1.2.2.2.2 f k h0 h1 a b
  have hd := hS (M (3 + 9 * f + 0).toNat).toNat (by omega)
  unfold slN
  rw [e 0 (by omega) (by omega), e 1 (by omega) (by omega), e 4 (by omega) (by omega), RG_LL h h0 h1]
  have hr := sS_rS (S := S) g1.2.2.1.1 hd.1
  unfold tLS at hr
  by_cases h2 : S (M (3 + 9 * f + 1).toNat).toNat = -1
  · rw [if_pos h2] at hr ⊢
    rcases hr with ⟨-, -, c⟩ | ⟨a, -⟩
    · rw [c]; exact ⟨rfl, fun _ => rfl⟩
    · omega
  · rw [if_neg h2] at hr ⊢
    rcases hr with ⟨a, -, c⟩ | ⟨a, b⟩
    · rw [if_pos (by omega), c]
      exact ⟨rfl, fun _ => rfl⟩
    · rw [if_neg (by omega)]
      exact ⟨b, fun q => by cases q⟩
theorem fsIn_one (N : Nat → Int) : ∀ (n : Nat) (f : Int) (A : Nat → Int), (fsIn N n f A 1).2 = 1 := by
  intro n
  induction n with
  | zero => intro f A; rfl
  | succ n ih =>
    intro f A
    unfold fsIn
    split
    · exact ih _ _
    · exact ih _ _
theorem fsIn_rIn {N M : Nat → Int} (h : RG N M) : ∀ (n : Nat) (f : Int) (A : Nat → Int) (b : Int), f + n = N 0 → 0 ≤ f → okR8 A → eS (fsIn N n f A b).1 = rIn (sQ M) n f (eS A) ∧ (b = 0 → (fsIn N n f A b).2 = 0 → (fsIn N n f A b).1 = A) := by
  intro n
  induction n with
  | zero => intro f A b _ _ _; exact ⟨rfl, fun _ _ => rfl⟩
  | succ n ih =>
    intro f A b h1 h2 h3
    have h4 := slN_rS h h2 (by omega) h3
    have h5 := slN_ok (f := f) h3 (h.2.1.2.2 f h2 (by omega)).1 (h.2.1.2.2 f h2 (by omega)).2
    have h6 := ih (f + 1) (slN A N f).2 (if (slN A N f).1 = 0 then b else 1) (by omega) (by omega) h5
    unfold fsIn rIn
    rw [← h4.1]
    refine ⟨h6.1, fun hb hz => ?_⟩
    by_cases h7 : (slN A N f).1 = 0
    · rw [if_pos h7] at h6 hz ⊢
      rw [h6.2 hb hz]
      exact h4.2 h7
    · rw [if_neg h7, fsIn_one] at hz
      cases hz
theorem fsOut_rR {N M : Nat → Int} (h : RG N M) : ∀ (n : Nat) (A : Nat → Int) (b : Int), okR8 A → (b = 0 → rIn (sQ M) (sQ M).1 0 (eS A) = eS A) → eS (fsOut N n A b) = rR (sQ M) n (eS A) := by
  have hc : (sQ M).1 = (N 0).toNat := by show (M 2).toNat = (N 0).toNat; rw [h.1.1]
  have hN := h.2.1.1
  intro n
  induction n with
  | zero => intro A b _ _; rfl
  | succ n ih =>
    intro A b h1 h2
    have h3 := fsIn_rIn h (N 0).toNat 0 A 0 (by omega) (by omega) h1
    unfold fsOut
    by_cases h4 : b = 0
    · rw [if_pos h4]
      exact (rR_fix (h2 h4) _).symm
    · rw [if_neg h4]
      unfold rR
      rw [hc, ← h3.1]
      refine ih _ _ (fsIn_ok h.2.1 _ _ _ _ (by omega) (by omega) h1) (fun h5 => ?_)
      have h6 := h3.2 rfl h5
      rw [h6] at h3 ⊢
      rw [hc]
      exact h3.1.symm
theorem fStt_eq {N M : Nat → Int} (h : RG N M) {S B : Nat → Int} {j l : Int} (hj : 0 ≤ j ∧ j < 8) (hl : 0 ≤ l ∧ l ≤ 1539) {k : Nat} (hk : k < 8) : fStt N S j l k = lsF M j l B k := by
  have hX := RG_X h
  have hq := sQ_ok hX
  have h1 := gFix_end (lsSt_good hX) (flG_ok2 B j l hl)
  have h2 := gAs_end hq (lsSt_as hX) (flG_ok2 B j l hl) h1.1
  have e0 : ∀ k : Nat, k < 8 → eS (flG B j l (-1) 8) k = eS (su (fillN 8 (-1) S) j.toNat l) k := by
    intro k hk
    unfold eS
    have e1 : flG B j l (-1) 8 k = su (fillN 8 (-1) S) j.toNat l k := by
      unfold flG
      rw [if_pos (show (k : Int) < 8 by omega)]
      by_cases h3 : (k : Int) = j
      · rw [if_pos h3, show k = j.toNat by omega, su_s]
      · rw [if_neg h3, su_n (show k ≠ j.toNat by omega)]
        exact (if_pos hk).symm
    rw [e1]
  have h3 : eS (fStt N S j l) k = eS (lsF M j l B) k := by
    unfold fStt
    rw [fsOut_rR h 7 _ 1 (okR8_start S j l (by omega)) (fun q => by cases q)]
    refine rSeven hq (fun k hk => ?_) h2.1 (fun k hk => ?_) (rSd_cong hq e0 h2.2.2) k hk
    · rw [← e0 k hk]
      have := flG_ok2 B j l hl k hk
      rcases eS_in (flG B j l (-1) 8) k with ⟨a, b⟩ | ⟨a, b⟩ <;> omega
    · rw [← e0 k hk]
      exact h2.2.1 k hk
  have h4 := fStt_ok h.2.1 (A := S) (i := j) (m := l) (by omega) k hk
  have h5 := lsF_ok hX (i := j) (B := B) hl k hk
  rcases eS_in (fStt N S j l) k with ⟨a, b⟩ | ⟨a, b⟩ <;> rcases eS_in (lsF M j l B) k with ⟨a', b'⟩ | ⟨a', b'⟩ <;> omega
end EQA
