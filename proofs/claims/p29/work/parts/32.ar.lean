noncomputable section EQA
/-! arrivals: where the seven rounds end -/
def aSt (N : Nat → Int) (f x : Int) : Int := if NL N f x = -1 then 1000000 else NL N f x + (N (23 + f * 9 + 4).toNat)
def aQ (N : Nat → Int) : tRx := ((N 0).toNat, fun f => (N (23 + f * 9 + 0).toNat).toNat, fun f => (N (23 + f * 9 + 1).toNat).toNat, aSt N)
theorem aSt_e {N : Nat → Int} {f : Int} (hf : okF N f) (x : Int) : (NL N f x = -1 ∧ aSt N f x = 1000000 ∧ ∀ t, x ≤ t → ¬ lvA N f t) ∨ (x ≤ NL N f x ∧ 0 ≤ NL N f x ∧ NL N f x ≤ 1439 ∧ aSt N f x = NL N f x + (N (23 + f * 9 + 4).toNat) ∧ lvA N f (NL N f x) ∧ ∀ t, x ≤ t → lvA N f t → NL N f x ≤ t) := by
  unfold aSt
  rcases NL_P hf x with ⟨a, b⟩ | ⟨a, b, c⟩
  · exact Or.inl ⟨a, if_pos a, b⟩
  · have := lvA_0 hf b
    exact Or.inr ⟨a, this.1, this.2, if_neg (by omega), b, c⟩
theorem NL_big {N : Nat → Int} {f x : Int} (hf : okF N f) (h : 1439 < x) : NL N f x = -1 := by
  rcases aSt_e hf x with ⟨a, -⟩ | ⟨a, -, b, -⟩
  · exact a
  · omega
theorem aQ_ok {N : Nat → Int} (hW : okW N) : rOK (aQ N) := by
  intro f h0 h1
  have h1 : f < ((N 0).toNat : Int) := h1
  obtain ⟨g1, g2, g3⟩ := hW.2.2 f h0 (by omega)
  have k4 := g1.2.2.1
  have e := aSt_e g1
  refine ⟨⟨?_, ?_⟩, fun x y hxy => ?_, fun x => ?_, fun x hx => ?_⟩
  · show (N (23 + f * 9 + 0).toNat).toNat < 8
    omega
  · show (N (23 + f * 9 + 1).toNat).toNat < 8
    omega
  · show aSt N f x ≤ aSt N f y
    rcases e y with ⟨-, b, -⟩ | ⟨a, a2, a3, b, b2, -⟩
    · rcases e x with ⟨-, d, -⟩ | ⟨-, -, d2, d, -, -⟩ <;> omega
    · rcases e x with ⟨-, -, d⟩ | ⟨-, -, -, d, -, d2⟩
      · exact absurd b2 (d _ (by omega))
      · have := d2 _ (show x ≤ NL N f y by omega) b2
        omega
  · show aSt N f x ≤ 1000000
    rcases e x with ⟨-, d, -⟩ | ⟨-, -, d2, d, -, -⟩ <;> omega
  · have hx : aSt N f x < 1000000 := hx
    show x < aSt N f x
    rcases e x with ⟨-, d, -⟩ | ⟨d3, -, d2, d, -, -⟩ <;> omega
def eA (A : Nat → Int) : Nat → Int := fun i => if A i = -1 then 1000000 else A i
theorem eA_su {A : Nat → Int} {k : Nat} {v : Int} (h : v ≠ -1) : eA (su A k v) = su (eA A) k v := by
  funext i
  unfold eA
  by_cases h1 : i = k
  · subst h1
    rw [su_s, su_s, if_neg h]
  · rw [su_n h1, su_n h1]
theorem eA_in {A : Nat → Int} (hA : okR8 A) {k : Nat} (hk : k < 8) : (A k = -1 ∧ eA A k = 1000000) ∨ (A k ≠ -1 ∧ eA A k = A k ∧ 0 ≤ A k ∧ A k ≤ 2000) := by
  have := hA k hk
  unfold eA
  by_cases h : A k = -1
  · exact Or.inl ⟨h, if_pos h⟩
  · exact Or.inr ⟨h, if_neg h, by omega, by omega⟩
theorem csN_rS {N A : Nat → Int} (hW : okW N) {f : Int} (h0 : 0 ≤ f) (h1 : f < N 0) (hA : okR8 A) : eA (csN A N f).2 = rS (aQ N) f (eA A) ∧ ((csN A N f).1 = 0 → (csN A N f).2 = A) := by
  obtain ⟨g1, g2, g3⟩ := hW.2.2 f h0 h1
  have k4 := g1.2.2.1
  unfold csN rS
  show eA _ = (if aSt N f (eA A (N (23 + f * 9 + 0).toNat).toNat) < eA A (N (23 + f * 9 + 1).toNat).toNat then su (eA A) (N (23 + f * 9 + 1).toNat).toNat (aSt N f (eA A (N (23 + f * 9 + 0).toNat).toNat)) else eA A) ∧ _
  have c0 := eA_in hA (k := (N (23 + f * 9 + 0).toNat).toNat) (by omega)
  have c1 := eA_in hA (k := (N (23 + f * 9 + 1).toNat).toNat) (by omega)
  have none : (if A (N (23 + f * 9 + 0).toNat).toNat = -1 then -1 else NL N f (A (N (23 + f * 9 + 0).toNat).toNat)) = -1 → aSt N f (eA A (N (23 + f * 9 + 0).toNat).toNat) = 1000000 := by
    intro q
    unfold aSt
    rcases c0 with ⟨a, b⟩ | ⟨a, b, b2, b3⟩
    · rw [b, if_pos (NL_big g1 (by omega))]
    · rw [if_neg a] at q
      rw [b, if_pos q]
  by_cases hl : (if A (N (23 + f * 9 + 0).toNat).toNat = -1 then -1 else NL N f (A (N (23 + f * 9 + 0).toNat).toNat)) = -1
  · dsimp only
    rw [if_pos hl, none hl, if_neg (by omega)]
    exact ⟨rfl, fun _ => rfl⟩
  · have hs : A (N (23 + f * 9 + 0).toNat).toNat ≠ -1 := fun q => hl (if_pos q)
    have hs2 : eA A (N (23 + f * 9 + 0).toNat).toNat = A (N (23 + f * 9 + 0).toNat).toNat ∧ 0 ≤ A (N (23 + f * 9 + 0).toNat).toNat := by omega
    dsimp only
    rw [if_neg hl]
    rw [if_neg hs] at hl ⊢
    have hst : aSt N f (eA A (N (23 + f * 9 + 0).toNat).toNat) = NL N f (A (N (23 + f * 9 + 0).toNat).toNat) + (N (23 + f * 9 + 4).toNat) := by
      unfold aSt
      rw [hs2.1, if_neg hl]
    rw [hst]
    have hn : 0 ≤ NL N f (A (N (23 + f * 9 + 0).toNat).toNat) ∧ NL N f (A (N (23 + f * 9 + 0).toNat).toNat) ≤ 1439 := by
      rcases NL_in (m := A (N (23 + f * 9 + 0).toNat).toNat) g1 with q | q
      · exact absurd q hl
      · exact q
    by_cases h2 : A (N (23 + f * 9 + 1).toNat).toNat ≠ -1 ∧ A (N (23 + f * 9 + 1).toNat).toNat ≤ NL N f (A (N (23 + f * 9 + 0).toNat).toNat) + (N (23 + f * 9 + 4).toNat)
    · rw [if_pos h2, if_neg (by omega)]
      exact ⟨rfl, fun _ => rfl⟩
    · rw [if_neg h2, if_pos (by omega)]
      exact ⟨eA_su (by omega), fun q => by cases q⟩
theorem faIn_one (N : Nat → Int) : ∀ (n : Nat) (f : Int) (A : Nat → Int), (faIn N n f A 1).2 = 1 := by
  intro n
  induction n with
  | zero => intro f A; rfl
  | succ n ih =>
    intro f A
    unfold faIn
    split
    · exact ih _ _
    · exact ih _ _
theorem faIn_rIn {N : Nat → Int} (hW : okW N) : ∀ (n : Nat) (f : Int) (A : Nat → Int) (b : Int), f + n = N 0 → 0 ≤ f → okR8 A → eA (faIn N n f A b).1 = rIn (aQ N) n f (eA A) ∧ (b = 0 → (faIn N n f A b).2 = 0 → (faIn N n f A b).1 = A) := by
  intro n
  induction n with
  | zero => intro f A b _ _ _; exact ⟨rfl, fun _ _ => rfl⟩
  | succ n ih =>
    intro f A b h1 h2 h3
    have h4 := csN_rS hW h2 (by omega) h3
    have h5 := csN_ok (f := f) h3 (hW.2.2 f h2 (by omega)).1
    have h6 := ih (f + 1) (csN A N f).2 (if (csN A N f).1 = 0 then b else 1) (by omega) (by omega) h5
    unfold faIn rIn
    rw [← h4.1]
    refine ⟨h6.1, fun hb hz => ?_⟩
    by_cases h7 : (csN A N f).1 = 0
    · rw [if_pos h7] at h6 hz ⊢
      rw [h6.2 hb hz]
      exact h4.2 h7
    · rw [if_neg h7, faIn_one] at hz
      cases hz
theorem rR_fix {q : tRx} {D : Nat → Int} (h : rIn q q.1 0 D = D) : ∀ n : Nat, rR q n D = D := by
  intro n
  induction n with
  | zero => rfl
  | succ n ih => unfold rR; rw [h]; exact ih
theorem faOut_rR {N : Nat → Int} (hW : okW N) : ∀ (n : Nat) (A : Nat → Int) (b : Int), okR8 A → (b = 0 → rIn (aQ N) (aQ N).1 0 (eA A) = eA A) → eA (faOut N n A b) = rR (aQ N) n (eA A) := by
  have hc : (aQ N).1 = (N 0).toNat := rfl
  have hN := hW.1
  intro n
  induction n with
  | zero => intro A b _ _; rfl
  | succ n ih =>
    intro A b h1 h2
    have h3 := faIn_rIn hW (N 0).toNat 0 A 0 (by omega) (by omega) h1
    unfold faOut
    by_cases h4 : b = 0
    · rw [if_pos h4]
      exact (rR_fix (h2 h4) _).symm
    · rw [if_neg h4]
      unfold rR
      rw [hc, ← h3.1]
      refine ih _ _ (faIn_ok hW _ _ _ _ (by omega) (by omega) h1) (fun h5 => ?_)
      have h6 := h3.2 rfl h5
      rw [h6] at h3 ⊢
      rw [hc]
      exact h3.1.symm
/-- what is told of islands, by numbers with 1000000 for none -/
def aD0 (i m : Int) : Nat → Int := fun k => if k = i.toNat then m else 1000000
theorem eA_start {A : Nat → Int} {i m : Int} (hm : 0 ≤ m) : ∀ k : Nat, k < 8 → eA (su (fillN 8 (-1) A) i.toNat m) k = aD0 i m k := by
  intro k hk
  rw [eA_su (by omega)]
  unfold aD0 su
  by_cases h : k = i.toNat
  · rw [if_pos h, if_pos h]
  · rw [if_neg h, if_neg h]
    unfold eA
    rw [if_pos (if_pos hk)]
theorem fArr_P {N : Nat → Int} (hW : okW N) {A : Nat → Int} {i m : Int} (hm : 0 ≤ m ∧ m ≤ 1439) : rCl (aQ N) (eA (fArr N A i m)) ∧ rLe (eA (fArr N A i m)) (aD0 i m) ∧ rSd (aQ N) (aD0 i m) (eA (fArr N A i m)) := by
  have hq := aQ_ok hW
  have e0 := eA_start (A := A) (i := i) (m := m) hm.1
  have hb : ∀ k : Nat, k < 8 → 0 ≤ eA (su (fillN 8 (-1) A) i.toNat m) k ∧ eA (su (fillN 8 (-1) A) i.toNat m) k ≤ 1000000 := by
    intro k hk
    rw [e0 k hk]
    unfold aD0
    split <;> omega
  obtain ⟨h1, h2, h3⟩ := rEnd hq hb (by omega)
  have e1 : eA (fArr N A i m) = rR (aQ N) 7 (eA (su (fillN 8 (-1) A) i.toNat m)) := faOut_rR hW 7 _ 1 (okR8_start A i m (by omega)) (fun q => by cases q)
  rw [e1]
  refine ⟨h1, fun k hk => ?_, rSd_cong hq e0 h3⟩
  rw [← e0 k hk]
  exact h2 k hk
/-- the island where one starts: this minute -/
theorem fArr_at {N : Nat → Int} (hW : okW N) {A : Nat → Int} {i m : Int} (hi : 0 ≤ i ∧ i < 8) (hm : 0 ≤ m ∧ m ≤ 1439) : fArr N A i m i.toNat = m := by
  obtain ⟨h1, h2, h3⟩ := fArr_P hW (A := A) (i := i) hm
  have k1 := h2 i.toNat (by omega)
  obtain ⟨n, hn⟩ := h3 i.toNat (by omega)
  have k2 := Rc_lo (aQ_ok hW) (lo := m) (fun k hk => by unfold aD0; split <;> omega) (by omega) n _ _ (by omega) hn
  have k3 : aD0 i m i.toNat = m := if_pos rfl
  have k4 := eA_in (fArr_ok hW (A := A) (i := i) (m := m) (by omega)) (k := i.toNat) (by omega)
  omega
/-- another island, by the ferries that come in -/
theorem fArr_by {N : Nat → Int} (hW : okW N) {A : Nat → Int} {i m : Int} (hm : 0 ≤ m ∧ m ≤ 1439) {k : Nat} (hk : k < 8) (hne : k ≠ i.toNat) : (∀ f : Int, 0 ≤ f → f < N 0 → (N (23 + f * 9 + 1).toNat).toNat = k → eA (fArr N A i m) k ≤ aSt N f (eA (fArr N A i m) (N (23 + f * 9 + 0).toNat).toNat)) ∧
    (fArr N A i m k = -1 ∨ ∃ f : Int, 0 ≤ f ∧ f < N 0 ∧ (N (23 + f * 9 + 1).toNat).toNat = k ∧ fArr N A i m k = aSt N f (eA (fArr N A i m) (N (23 + f * 9 + 0).toNat).toNat)) := by
  obtain ⟨h1, h2, h3⟩ := fArr_P hW (A := A) (i := i) hm
  have hN := hW.1
  have hc : (aQ N).1 = (N 0).toNat := rfl
  have k4 := eA_in (fArr_ok hW (A := A) (i := i) (m := m) (by omega)) (k := k) hk
  refine ⟨fun f g0 g1 g2 => ?_, ?_⟩
  · have := h1 f g0 (by rw [hc]; omega)
    subst g2
    exact this
  · rcases rKey (aQ_ok hW) h1 h2 h3 k hk with q | q | ⟨f, g0, g1, g2, g3⟩
    · have k3 : aD0 i m k = 1000000 := if_neg hne
      omega
    · omega
    · by_cases q : fArr N A i m k = -1
      · exact Or.inl q
      · rw [hc] at g1
        refine Or.inr ⟨f, g0, by omega, g2, ?_⟩
        have g3 : eA (fArr N A i m) k = aSt N f (eA (fArr N A i m) (N (23 + f * 9 + 0).toNat).toNat) := g3
        omega
end EQA
