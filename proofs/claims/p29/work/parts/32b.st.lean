noncomputable section EQS
/-! starts: where the seven rounds end; a start is the last one in time -/
def sSt (N : Nat → Int) (f x : Int) : Int := if LL N f (-x - (N (23 + f * 9 + 4).toNat)) = -1 then 1000000 else -LL N f (-x - (N (23 + f * 9 + 4).toNat))
def sQ (N : Nat → Int) : tRx := ((N 0).toNat, fun f => (N (23 + f * 9 + 1).toNat).toNat, fun f => (N (23 + f * 9 + 0).toNat).toNat, sSt N)
theorem sSt_e {N : Nat → Int} {f : Int} (hf : okF N f) (x : Int) : (sSt N f x = 1000000 ∧ ∀ t, t ≤ -x - (N (23 + f * 9 + 4).toNat) → ¬ lvA N f t) ∨ (0 ≤ LL N f (-x - (N (23 + f * 9 + 4).toNat)) ∧ LL N f (-x - (N (23 + f * 9 + 4).toNat)) ≤ -x - (N (23 + f * 9 + 4).toNat) ∧ sSt N f x = -LL N f (-x - (N (23 + f * 9 + 4).toNat)) ∧ lvA N f (LL N f (-x - (N (23 + f * 9 + 4).toNat))) ∧ ∀ t, t ≤ -x - (N (23 + f * 9 + 4).toNat) → lvA N f t → t ≤ LL N f (-x - (N (23 + f * 9 + 4).toNat))) := by
  unfold sSt
  rcases LL_P hf (-x - (N (23 + f * 9 + 4).toNat)) with ⟨a, b⟩ | ⟨a0, a, b, c⟩
  · exact Or.inl ⟨if_pos a, b⟩
  · exact Or.inr ⟨a0, a, if_neg (by omega), b, c⟩
theorem sQ_ok {N : Nat → Int} (hW : okW N) : rOK (sQ N) := by
  intro f h0 h1
  have h1 : f < ((N 0).toNat : Int) := h1
  obtain ⟨g1, g2, g3⟩ := hW.2.2 f h0 (by omega)
  have k4 := g1.2.2.1
  have e := sSt_e g1
  refine ⟨⟨?_, ?_⟩, fun x y hxy => ?_, fun x => ?_, fun x hx => ?_⟩
  · show (N (23 + f * 9 + 1).toNat).toNat < 8
    omega
  · show (N (23 + f * 9 + 0).toNat).toNat < 8
    omega
  · show sSt N f x ≤ sSt N f y
    rcases e y with ⟨b, -⟩ | ⟨a, a2, b, b2, -⟩
    · rcases e x with ⟨d, -⟩ | ⟨d1, -, d, -, -⟩ <;> omega
    · rcases e x with ⟨-, d⟩ | ⟨-, -, d, -, d2⟩
      · exact absurd b2 (d _ (by omega))
      · have := d2 _ (show LL N f (-y - (N (23 + f * 9 + 4).toNat)) ≤ -x - (N (23 + f * 9 + 4).toNat) by omega) b2
        omega
  · show sSt N f x ≤ 1000000
    rcases e x with ⟨d, -⟩ | ⟨d1, -, d, -, -⟩ <;> omega
  · have hx : sSt N f x < 1000000 := hx
    show x < sSt N f x
    rcases e x with ⟨d, -⟩ | ⟨-, d2, d, -, -⟩ <;> omega
def eS (S : Nat → Int) : Nat → Int := fun i => if S i = -1 then 1000000 else -S i
theorem eS_su {S : Nat → Int} {k : Nat} {v : Int} (h : v ≠ -1) : eS (su S k v) = su (eS S) k (-v) := by
  funext i
  unfold eS
  by_cases h1 : i = k
  · subst h1
    rw [su_s, su_s, if_neg h]
  · rw [su_n h1, su_n h1]
theorem eS_in (S : Nat → Int) (k : Nat) : (S k = -1 ∧ eS S k = 1000000) ∨ (S k ≠ -1 ∧ eS S k = -S k) := by
  unfold eS
  by_cases h : S k = -1
  · exact Or.inl ⟨h, if_pos h⟩
  · exact Or.inr ⟨h, if_neg h⟩
theorem slN_rS {N S : Nat → Int} (hW : okW N) {f : Int} (h0 : 0 ≤ f) (h1 : f < N 0) (hS : okR8 S) : eS (slN S N f).2 = rS (sQ N) f (eS S) ∧ ((slN S N f).1 = 0 → (slN S N f).2 = S) := by
  obtain ⟨g1, g2, g3⟩ := hW.2.2 f h0 h1
  have k4 := g1.2.2.1
  have hd := hS (N (23 + f * 9 + 0).toNat).toNat (by omega)
  have ht := hS (N (23 + f * 9 + 1).toNat).toNat (by omega)
  unfold slN rS
  show eS _ = (if sSt N f (eS S (N (23 + f * 9 + 1).toNat).toNat) < eS S (N (23 + f * 9 + 0).toNat).toNat then su (eS S) (N (23 + f * 9 + 0).toNat).toNat (sSt N f (eS S (N (23 + f * 9 + 1).toNat).toNat)) else eS S) ∧ _
  have c0 := eS_in S (N (23 + f * 9 + 0).toNat).toNat
  have c1 := eS_in S (N (23 + f * 9 + 1).toNat).toNat
  have e := sSt_e g1 (eS S (N (23 + f * 9 + 1).toNat).toNat)
  by_cases h2 : S (N (23 + f * 9 + 1).toNat).toNat = -1
  · rw [if_pos h2]
    have h3 : ¬ sSt N f (eS S (N (23 + f * 9 + 1).toNat).toNat) < eS S (N (23 + f * 9 + 0).toNat).toNat := by
      rcases e with ⟨d, -⟩ | ⟨d1, d2, -⟩ <;> omega
    rw [if_neg h3]
    exact ⟨rfl, fun _ => rfl⟩
  · rw [if_neg h2]
    have ex : eS S (N (23 + f * 9 + 1).toNat).toNat = -S (N (23 + f * 9 + 1).toNat).toNat := by omega
    rw [ex] at e ⊢
    rw [show -(-S (N (23 + f * 9 + 1).toNat).toNat) - (N (23 + f * 9 + 4).toNat) = S (N (23 + f * 9 + 1).toNat).toNat - (N (23 + f * 9 + 4).toNat) by omega] at e
    by_cases h4 : LL N f (S (N (23 + f * 9 + 1).toNat).toNat - (N (23 + f * 9 + 4).toNat)) ≤ S (N (23 + f * 9 + 0).toNat).toNat
    · rw [if_pos h4]
      have h3 : ¬ sSt N f (-S (N (23 + f * 9 + 1).toNat).toNat) < eS S (N (23 + f * 9 + 0).toNat).toNat := by
        rcases e with ⟨d, -⟩ | ⟨d1, d2, d3, -⟩ <;> omega
      rw [if_neg h3]
      exact ⟨rfl, fun _ => rfl⟩
    · rw [if_neg h4]
      have h5 := LL_in (m := S (N (23 + f * 9 + 1).toNat).toNat - (N (23 + f * 9 + 4).toNat)) g1
      rcases e with ⟨d, d2⟩ | ⟨d1, d2, d3, -⟩
      · rcases LL_P g1 (S (N (23 + f * 9 + 1).toNat).toNat - (N (23 + f * 9 + 4).toNat)) with ⟨q, -⟩ | ⟨q0, q, q2, -⟩
        · omega
        · exact absurd q2 (d2 _ q)
      · rw [d3, if_pos (by omega)]
        exact ⟨eS_su (by omega), fun q => by cases q⟩
theorem fsIn_one (N : Nat → Int) : ∀ (n : Nat) (f : Int) (A : Nat → Int), (fsIn N n f A 1).2 = 1 := by
  intro n
  induction n with
  | zero => intro f A; rfl
  | succ n ih =>
    intro f A
    unfold fsIn
    split
    · exact ih _ _
    · exact ih _ _
theorem fsIn_rIn {N : Nat → Int} (hW : okW N) : ∀ (n : Nat) (f : Int) (A : Nat → Int) (b : Int), f + n = N 0 → 0 ≤ f → okR8 A → eS (fsIn N n f A b).1 = rIn (sQ N) n f (eS A) ∧ (b = 0 → (fsIn N n f A b).2 = 0 → (fsIn N n f A b).1 = A) := by
  intro n
  induction n with
  | zero => intro f A b _ _ _; exact ⟨rfl, fun _ _ => rfl⟩
  | succ n ih =>
    intro f A b h1 h2 h3
    have h4 := slN_rS hW h2 (by omega) h3
    have h5 := slN_ok (f := f) h3 (hW.2.2 f h2 (by omega)).1 (hW.2.2 f h2 (by omega)).2
    have h6 := ih (f + 1) (slN A N f).2 (if (slN A N f).1 = 0 then b else 1) (by omega) (by omega) h5
    unfold fsIn rIn
    rw [← h4.1]
    refine ⟨h6.1, fun hb hz => ?_⟩
    by_cases h7 : (slN A N f).1 = 0
    · rw [if_pos h7] at h6 hz ⊢
      rw [h6.2 hb hz]
      exact h4.2 h7
    · rw [if_neg h7, fsIn_one] at hz
      cases hz
theorem fsOut_rR {N : Nat → Int} (hW : okW N) : ∀ (n : Nat) (A : Nat → Int) (b : Int), okR8 A → (b = 0 → rIn (sQ N) (sQ N).1 0 (eS A) = eS A) → eS (fsOut N n A b) = rR (sQ N) n (eS A) := by
  have hc : (sQ N).1 = (N 0).toNat := rfl
  have hN := hW.1
  intro n
  induction n with
  | zero => intro A b _ _; rfl
  | succ n ih =>
    intro A b h1 h2
    have h3 := fsIn_rIn hW (N 0).toNat 0 A 0 (by omega) (by omega) h1
    unfold fsOut
    by_cases h4 : b = 0
    · rw [if_pos h4]
      exact (rR_fix (h2 h4) _).symm
    · rw [if_neg h4]
      unfold rR
      rw [hc, ← h3.1]
      refine ih _ _ (fsIn_ok hW _ _ _ _ (by omega) (by omega) h1) (fun h5 => ?_)
      have h6 := h3.2 rfl h5
      rw [h6] at h3 ⊢
      rw [hc]
      exact h3.1.symm
def sD0 (j l : Int) : Nat → Int := fun k => if k = j.toNat then -l else 1000000
theorem eS_start {S : Nat → Int} {j l : Int} (hl : 0 ≤ l) : ∀ k : Nat, k < 8 → eS (su (fillN 8 (-1) S) j.toNat l) k = sD0 j l k := by
  intro k hk
  rw [eS_su (by omega)]
  unfold sD0 su
  by_cases h : k = j.toNat
  · rw [if_pos h, if_pos h]
  · rw [if_neg h, if_neg h]
    unfold eS
    rw [if_pos (if_pos hk)]
theorem fStt_P {N : Nat → Int} (hW : okW N) {S : Nat → Int} {j l : Int} (hl : 0 ≤ l ∧ l ≤ 1539) : rCl (sQ N) (eS (fStt N S j l)) ∧ rLe (eS (fStt N S j l)) (sD0 j l) ∧ rSd (sQ N) (sD0 j l) (eS (fStt N S j l)) := by
  have hq := sQ_ok hW
  have e0 := eS_start (S := S) (j := j) (l := l) hl.1
  have hb : ∀ k : Nat, k < 8 → -2000 ≤ eS (su (fillN 8 (-1) S) j.toNat l) k ∧ eS (su (fillN 8 (-1) S) j.toNat l) k ≤ 1000000 := by
    intro k hk
    rw [e0 k hk]
    unfold sD0
    split <;> omega
  obtain ⟨h1, h2, h3⟩ := rEnd hq hb (by omega)
  have e1 : eS (fStt N S j l) = rR (sQ N) 7 (eS (su (fillN 8 (-1) S) j.toNat l)) := fsOut_rR hW 7 _ 1 (okR8_start S j l (by omega)) (fun q => by cases q)
  rw [e1]
  refine ⟨h1, fun k hk => ?_, rSd_cong hq e0 h3⟩
  rw [← e0 k hk]
  exact h2 k hk
/-- a chain of starts: who is on its first island by then, is in time -/
theorem Rc_in {N : Nat → Int} (hW : okW N) {E : Nat → Int} (hE : rCl (aQ N) E) {j l : Int} (hl : l ≤ 1539) : ∀ (n k : Nat) (s : Int), k < 8 → Rc (sQ N) (sD0 j l) n k s → s < 1000000 → E k ≤ -s → E j.toNat ≤ l := by
  intro n
  induction n with
  | zero =>
    intro k s hk h h1 h2
    have h : s = sD0 j l k := h
    unfold sD0 at h
    by_cases h3 : k = j.toNat
    · rw [if_pos h3] at h
      rw [← h3]
      omega
    · rw [if_neg h3] at h
      omega
  | succ n ih =>
    intro k s hk h h1 h2
    obtain ⟨f, g0, g1, g2, s', g3, g4⟩ := h
    have g1' : f < ((N 0).toNat : Int) := g1
    have g2 : (N (23 + f * 9 + 0).toNat).toNat = k := g2
    have g4 : s = sSt N f s' := g4
    have g3 : Rc (sQ N) (sD0 j l) n (N (23 + f * 9 + 1).toNat).toNat s' := g3
    obtain ⟨o1, o2, o3⟩ := hW.2.2 f g0 (by omega)
    have k4 := o1.2.2.1
    rcases sSt_e o1 s' with ⟨d, -⟩ | ⟨d1, d2, d3, d4, d5⟩
    · omega
    · have h3 : E (N (23 + f * 9 + 1).toNat).toNat ≤ aSt N f (E (N (23 + f * 9 + 0).toNat).toNat) := hE f g0 g1
      rw [g2] at h3
      have h4 : aSt N f (E k) ≤ LL N f (-s' - (N (23 + f * 9 + 4).toNat)) + (N (23 + f * 9 + 4).toNat) := by
        rcases aSt_e o1 (E k) with ⟨-, -, a⟩ | ⟨-, -, -, a, -, b⟩
        · exact absurd d4 (a _ (by omega))
        · have := b _ (show E k ≤ LL N f (-s' - (N (23 + f * 9 + 4).toNat)) by omega) d4
          omega
      exact ih _ s' (by omega) g3 (by omega) (by omega)
/-- a chain of arrivals: who comes by what is told of the starts, began in time -/
theorem Rc_out {N : Nat → Int} (hW : okW N) {S : Nat → Int} (hS : rCl (sQ N) (eS S)) (hS8 : okR8 S) {i x : Int} (hx : 0 ≤ x ∧ x ≤ 1439) : ∀ (n k : Nat) (t : Int), k < 8 → Rc (aQ N) (aD0 i x) n k t → 0 ≤ t → t ≤ S k → x ≤ S i.toNat := by
  intro n
  induction n with
  | zero =>
    intro k t hk h h1 h2
    have h : t = aD0 i x k := h
    unfold aD0 at h
    have h4 := hS8 k hk
    by_cases h3 : k = i.toNat
    · rw [if_pos h3] at h
      rw [← h3]
      omega
    · rw [if_neg h3] at h
      omega
  | succ n ih =>
    intro k t hk h h1 h2
    obtain ⟨f, g0, g1, g2, t', g3, g4⟩ := h
    have g1' : f < ((N 0).toNat : Int) := g1
    have g2 : (N (23 + f * 9 + 1).toNat).toNat = k := g2
    have g4 : t = aSt N f t' := g4
    have g3 : Rc (aQ N) (aD0 i x) n (N (23 + f * 9 + 0).toNat).toNat t' := g3
    obtain ⟨o1, o2, o3⟩ := hW.2.2 f g0 (by omega)
    have k4 := o1.2.2.1
    have h4 := hS8 k hk
    rcases aSt_e o1 t' with ⟨-, d, -⟩ | ⟨d1, d2, d3, d4, d5, -⟩
    · omega
    · have h3 : eS S (N (23 + f * 9 + 0).toNat).toNat ≤ sSt N f (eS S (N (23 + f * 9 + 1).toNat).toNat) := hS f g0 g1
      rw [g2] at h3
      have c := eS_in S k
      have h5 : sSt N f (eS S k) ≤ -(NL N f t') := by
        rcases sSt_e o1 (eS S k) with ⟨-, a⟩ | ⟨-, -, a, -, b⟩
        · exact absurd d5 (a _ (by omega))
        · have := b _ (show NL N f t' ≤ -(eS S k) - (N (23 + f * 9 + 4).toNat) by omega) d5
          omega
      have c2 := eS_in S (N (23 + f * 9 + 0).toNat).toNat
      have h6 : NL N f t' ≤ S (N (23 + f * 9 + 0).toNat).toNat := by omega
      have h7 := Rc_lo (aQ_ok hW) (lo := x) (fun k hk => by unfold aD0; split <;> omega) (by omega) n _ t' (by omega) g3
      exact ih _ t' (by omega) g3 (by omega) (by omega)
/-- the last start is the last minute from which one is in time -/
theorem fStt_fArr {N : Nat → Int} (hW : okW N) {S A : Nat → Int} {i j l x : Int} (hi : 0 ≤ i ∧ i < 8) (hj : 0 ≤ j ∧ j < 8) (hl : 0 ≤ l ∧ l ≤ 1539) (hx : 0 ≤ x ∧ x ≤ 1439) : (fArr N A i x j.toNat ≠ -1 ∧ fArr N A i x j.toNat ≤ l) ↔ x ≤ fStt N S j l i.toNat := by
  obtain ⟨a1, a2, a3⟩ := fArr_P hW (A := A) (i := i) hx
  obtain ⟨s1, s2, s3⟩ := fStt_P hW (S := S) (j := j) hl
  have hA8 := fArr_ok hW (A := A) (i := i) (m := x) (by omega)
  have hS8 := fStt_ok hW (A := S) (i := j) (m := l) (by omega)
  have cj := eA_in hA8 (k := j.toNat) (by omega)
  constructor
  · rintro ⟨h1, h2⟩
    obtain ⟨n, hn⟩ := a3 j.toNat (by omega)
    have k1 := s2 j.toNat (by omega)
    have k2 : sD0 j l j.toNat = -l := if_pos rfl
    have c := eS_in (fStt N S j l) j.toNat
    exact Rc_out hW s1 hS8 hx n j.toNat _ (by omega) hn (by omega) (by omega)
  · intro h
    obtain ⟨n, hn⟩ := s3 i.toNat (by omega)
    have c := eS_in (fStt N S j l) i.toNat
    have k1 := a2 i.toNat (by omega)
    have k2 : aD0 i x i.toNat = x := if_pos rfl
    have := Rc_in hW a1 (j := j) hl.2 n i.toNat _ (by omega) hn (by omega) (by omega)
    omega
theorem fStt_top {N : Nat → Int} (hW : okW N) {S : Nat → Int} {i j l : Int} (hi : 0 ≤ i ∧ i < 8) (hij : i ≠ j) (hj : 0 ≤ j) (hl : 0 ≤ l ∧ l ≤ 1539) : -1 ≤ fStt N S j l i.toNat ∧ fStt N S j l i.toNat ≤ 1439 := by
  obtain ⟨s1, s2, s3⟩ := fStt_P hW (S := S) (j := j) hl
  have hS8 := fStt_ok hW (A := S) (i := j) (m := l) (by omega) i.toNat (by omega)
  have c := eS_in (fStt N S j l) i.toNat
  have hc : (sQ N).1 = (N 0).toNat := rfl
  refine ⟨hS8.1, ?_⟩
  rcases rKey (sQ_ok hW) s1 s2 s3 i.toNat (by omega) with q | q | ⟨f, g0, g1, g2, g3⟩
  · have k3 : sD0 j l i.toNat = 1000000 := if_neg (by omega)
    omega
  · omega
  · rw [hc] at g1
    obtain ⟨o1, o2, o3⟩ := hW.2.2 f g0 (by omega)
    have g3 : eS (fStt N S j l) i.toNat = sSt N f (eS (fStt N S j l) (N (23 + f * 9 + 1).toNat).toNat) := g3
    rcases sSt_e o1 (eS (fStt N S j l) (N (23 + f * 9 + 1).toNat).toNat) with ⟨d, -⟩ | ⟨d1, d2, d3, d4, -⟩
    · omega
    · have := (lvA_0 o1 d4).2
      omega
end EQS
