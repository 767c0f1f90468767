noncomputable section EQH
def mnC (a b : Int) : Int := if a < b then a else b
def pwI (t : Int) (n : Nat) (k : Int) (Z : Nat → Int) : Nat → Int := match n with
  | 0 => Z
  | n + 1 => pwI t n (k + 1) (su Z (1540 * k + t).toNat (mnC (Z (1540 * k + (t - 1)).toNat) (Z (1540 * k + t).toNat)))
noncomputable def pfS (N : Nat → Int) (t f : Int) (Z : Nat → Int) : Nat → Int := @ite (Nat → Int) (Z (1540 * (N (23 + f * 9 + 0).toNat) + t).toNat = 1000000 ∨ ¬ lvA N f t) (Classical.propDecidable _) Z
  (su Z (1540 * (N (23 + f * 9 + 1).toNat) + (t + (N (23 + f * 9 + 4).toNat))).toNat (mnC (Z (1540 * (N (23 + f * 9 + 0).toNat) + t).toNat + PR N f t) (Z (1540 * (N (23 + f * 9 + 1).toNat) + (t + (N (23 + f * 9 + 4).toNat))).toNat)))
noncomputable def pfI (N : Nat → Int) (t : Int) (n : Nat) (f : Int) (Z : Nat → Int) : Nat → Int := match n with
  | 0 => Z
  | n + 1 => pfI N t n (f + 1) (pfS N t f Z)
def pwM (m t : Int) (Z : Nat → Int) : Nat → Int := if m < t then pwI t 8 0 Z else Z
noncomputable def ptI (N : Nat → Int) (m : Int) (n : Nat) (t : Int) (Z : Nat → Int) : Nat → Int := match n with
  | 0 => Z
  | n + 1 => ptI N m n (t + 1) (pfI N t (N 0).toNat 0 (pwM m t Z))
def flP (Z : Nat → Int) (k : Int) : Nat → Int := fun j => if (j : Int) < k then 1000000 else Z j
noncomputable def mPay (N : Nat → Int) (i m : Int) (Z : Nat → Int) : Nat → Int := ptI N m (1540 - m).toNat m (su (flP Z 12320) (1540 * i + m).toNat 0)
abbrev okZ (Z : Nat → Int) : Prop := ∀ k : Nat, k < 12320 → 0 ≤ Z k ∧ Z k ≤ 1000000
theorem okZ_su {Z : Nat → Int} {k : Nat} {v : Int} (h : okZ Z) (hv : 0 ≤ v ∧ v ≤ 1000000) : okZ (su Z k v) := by
  intro j hj
  unfold su
  split
  · exact hv
  · exact h j hj
theorem mnC_in {a b x : Int} (ha : 0 ≤ a) (hb : 0 ≤ b ∧ b ≤ x) : 0 ≤ mnC a b ∧ mnC a b ≤ x := by
  unfold mnC
  split <;> omega
theorem pwI_ok {t : Int} (ht : 1 ≤ t ∧ t < 1540) : ∀ (n : Nat) (k : Int) (Z : Nat → Int), k + n = 8 → 0 ≤ k → okZ Z → okZ (pwI t n k Z) := by
  intro n
  induction n with
  | zero => intro k Z _ _ h; exact h
  | succ n ih =>
    intro k Z h1 h2 h3
    unfold pwI
    have h4 := h3 (1540 * k + (t - 1)).toNat (by omega)
    have h5 := h3 (1540 * k + t).toNat (by omega)
    exact ih _ _ (by omega) (by omega) (okZ_su h3 (mnC_in h4.1 h5))
theorem PR_in3 {N : Nat → Int} {f m : Int} (h : okF N f) : 0 ≤ PR N f m ∧ PR N f m ≤ 198 := (PR_in h).2
theorem pfS_ok {N : Nat → Int} {t f : Int} {Z : Nat → Int} (hg : okF N f) (hj : okI N f) (ht : 0 ≤ t) (h : okZ Z) : okZ (pfS N t f Z) := by
  unfold pfS
  by_cases h1 : Z (1540 * (N (23 + f * 9 + 0).toNat) + t).toNat = 1000000 ∨ ¬ lvA N f t
  · rw [if_pos h1]; exact h
  · rw [if_neg h1]
    have h2 : lvA N f t := Classical.byContradiction fun q => h1 (Or.inr q)
    have h3 := h2.1
    have h4 := hg.2.2.1
    have h5 := hj.1
    have h6 := hj.2
    have h7 := PR_in3 (m := t) hg
    have h8 := h (1540 * (N (23 + f * 9 + 0).toNat) + t).toNat (by omega)
    have h9 := h (1540 * (N (23 + f * 9 + 1).toNat) + (t + (N (23 + f * 9 + 4).toNat))).toNat (by omega)
    exact okZ_su h (mnC_in (by omega) h9)
theorem pfI_ok {N : Nat → Int} (hX : okW N) {t : Int} (ht : 0 ≤ t) : ∀ (n : Nat) (f : Int) (Z : Nat → Int), f + n = N 0 → 0 ≤ f → okZ Z → okZ (pfI N t n f Z) := by
  intro n
  induction n with
  | zero => intro f Z _ _ h; exact h
  | succ n ih =>
    intro f Z h1 h2 h3
    unfold pfI
    obtain ⟨g1, g2⟩ := hX.2.2 f h2 (by omega)
    exact ih _ _ (by omega) (by omega) (pfS_ok g1 g2 ht h3)
theorem pwM_ok {m t : Int} {Z : Nat → Int} (hm : 0 ≤ m) (ht : t < 1540) (h : okZ Z) : okZ (pwM m t Z) := by
  unfold pwM
  split
  · exact pwI_ok (by omega) 8 0 Z (by omega) (by omega) h
  · exact h
theorem ptI_ok {N : Nat → Int} (hX : okW N) {m : Int} (hm : 0 ≤ m) : ∀ (n : Nat) (t : Int) (Z : Nat → Int), t + n = 1540 → m ≤ t → okZ Z → okZ (ptI N m n t Z) := by
  intro n
  induction n with
  | zero => intro t Z _ _ h; exact h
  | succ n ih =>
    intro t Z h1 h2 h3
    unfold ptI
    have hN := hX.1
    exact ih _ _ (by omega) (by omega) (pfI_ok hX (by omega) _ _ _ (by omega) (by omega) (pwM_ok hm (by omega) h3))
theorem flP_ok (Z : Nat → Int) : okZ (flP Z 12320) := by
  intro k hk
  unfold flP
  rw [if_pos (by omega)]
  omega
theorem mPay_ok {N : Nat → Int} (hX : okW N) {i m : Int} {Z : Nat → Int} (hm : 0 ≤ m ∧ m ≤ 1539) : okZ (mPay N i m Z) := by
  unfold mPay
  exact ptI_ok hX hm.1 _ _ _ (by omega) (by omega) (okZ_su (flP_ok Z) (by omega))
/-! the model's table of coins tells the fewest -/
def cz (Z : Nat → Int) (i x : Int) : Int := Z (1540 * i + x).toNat
theorem cz_su {Z : Nat → Int} {i x j y v : Int} (hi : 0 ≤ i) (hj : 0 ≤ j) (hx : 0 ≤ x ∧ x < 1540) (hy : 0 ≤ y ∧ y < 1540) : (i = j ∧ x = y → cz (su Z (1540 * j + y).toNat v) i x = v) ∧ (¬ (i = j ∧ x = y) → cz (su Z (1540 * j + y).toNat v) i x = cz Z i x) := by
  unfold cz
  constructor
  · rintro ⟨rfl, rfl⟩
    exact su_s
  · intro h
    exact su_n (by omega)
theorem mnC_P (a b : Int) : mnC a b ≤ a ∧ mnC a b ≤ b ∧ ((mnC a b = a ∧ a < b) ∨ (mnC a b = b ∧ b ≤ a)) := by
  unfold mnC
  split <;> omega
def exT (N : Nat → Int) (Z : Nat → Int) (m i x T : Int) : Prop := ∃ f u, 0 ≤ f ∧ f < N 0 ∧ (N (23 + f * 9 + 1).toNat) = i ∧ m ≤ u ∧ u < T ∧ u + (N (23 + f * 9 + 4).toNat) = x ∧ lvA N f u ∧ cz Z (N (23 + f * 9 + 0).toNat) u ≠ 1000000 ∧ cz Z i x = cz Z (N (23 + f * 9 + 0).toNat) u + PR N f u
/-- columns up to e are done, boardings ahead of t and at t of the ferries ahead of k; what lies behind e is expected of boardings ahead of T -/
def invZ (N : Nat → Int) (i0 m e t k T : Int) (Z : Nat → Int) : Prop := okZ Z ∧
  (∀ i, 0 ≤ i → i < 8 → cz Z i m = if i = i0 then 0 else 1000000) ∧
  (∀ i x, 0 ≤ i → i < 8 → m < x → x ≤ e → cz Z i x ≤ cz Z i (x - 1)) ∧
  (∀ f u, 0 ≤ f → f < N 0 → m ≤ u → (u < t ∨ (u = t ∧ f < k)) → lvA N f u → cz Z (N (23 + f * 9 + 0).toNat) u ≠ 1000000 → cz Z (N (23 + f * 9 + 1).toNat) (u + (N (23 + f * 9 + 4).toNat)) ≤ cz Z (N (23 + f * 9 + 0).toNat) u + PR N f u) ∧
  (∀ i x, 0 ≤ i → i < 8 → m < x → x ≤ e → cz Z i x = cz Z i (x - 1) ∨ exT N Z m i x x) ∧
  ∀ i x, 0 ≤ i → i < 8 → m < x → e < x → x ≤ 1539 → cz Z i x = 1000000 ∨ exT N Z m i x T
theorem pwI_at {t : Int} (ht : 1 ≤ t ∧ t < 1540) : ∀ (n : Nat) (k : Int) (Z : Nat → Int), k + n = 8 → 0 ≤ k → ∀ i x, 0 ≤ i → i < 8 → 0 ≤ x → x < 1540 → ((k ≤ i ∧ x = t) → cz (pwI t n k Z) i x = mnC (cz Z i (t - 1)) (cz Z i t)) ∧ (¬ (k ≤ i ∧ x = t) → cz (pwI t n k Z) i x = cz Z i x) := by
  intro n
  induction n with
  | zero =>
    intro k Z h1 h2 i x h3 h4 h5 h6
    exact ⟨fun q => by omega, fun _ => rfl⟩
  | succ n ih =>
    intro k Z h1 h2 i x h3 h4 h5 h6
    unfold pwI
    have c := fun i x (a : 0 ≤ i) (b : 0 ≤ x ∧ x < 1540) => cz_su (Z := Z) (v := mnC (Z (1540 * k + (t - 1)).toNat) (Z (1540 * k + t).toNat)) a h2 b (show 0 ≤ t ∧ t < 1540 by omega)
    have k1 := ih (k + 1) (su Z (1540 * k + t).toNat (mnC (Z (1540 * k + (t - 1)).toNat) (Z (1540 * k + t).toNat))) (by omega) (by omega) i x h3 h4 h5 h6
    by_cases q : i = k
    · subst q
      rw [k1.2 (by omega)]
      refine ⟨fun r => (c i x h3 ⟨h5, h6⟩).1 ⟨rfl, r.2⟩, fun r => (c i x h3 ⟨h5, h6⟩).2 (fun s => r ⟨by omega, s.2⟩)⟩
    · rw [(c i x h3 ⟨h5, h6⟩).2 (by omega), (c i (t - 1) h3 (by omega)).2 (by omega), (c i t h3 (by omega)).2 (by omega)] at k1
      exact ⟨fun r => k1.1 ⟨by omega, r.2⟩, fun r => k1.2 (fun s => r ⟨by omega, s.2⟩)⟩
theorem pwM_inv {N : Nat → Int} (hX : okW N) {i0 m t : Int} (hm : 0 ≤ m) (hmt : m ≤ t) (ht : t ≤ 1539) {Z : Nat → Int} (h : invZ N i0 m (t - 1) t 0 t Z) : invZ N i0 m t t 0 t (pwM m t Z) := by
  have ok := pwM_ok hm (show t < 1540 by omega) h.1
  obtain ⟨h0, h1, h2, h3, h4, h5⟩ := h
  unfold pwM at ok ⊢
  by_cases q : m < t
  · rw [if_pos q] at ok ⊢
    have c := fun i x (a : 0 ≤ i) (b : i < 8) (d : 0 ≤ x) (e : x < 1540) => pwI_at (t := t) (by omega) 8 0 Z (by omega) (by omega) i x a b d e
    have other : ∀ i x, 0 ≤ i → i < 8 → 0 ≤ x → x < 1540 → x ≠ t → cz (pwI t 8 0 Z) i x = cz Z i x := fun i x a b d e r => (c i x a b d e).2 (fun s => r s.2)
    have at' : ∀ i, 0 ≤ i → i < 8 → cz (pwI t 8 0 Z) i t = mnC (cz Z i (t - 1)) (cz Z i t) := fun i a b => (c i t a b (by omega) (by omega)).1 ⟨a, rfl⟩
    have le : ∀ i x, 0 ≤ i → i < 8 → 0 ≤ x → x < 1540 → cz (pwI t 8 0 Z) i x ≤ cz Z i x := by
      intro i x a b d e
      by_cases r : x = t
      · subst r
        rw [at' i a b]
        exact (mnC_P _ _).2.1
      · rw [other i x a b d e r]
        exact Int.le_refl _
    have ex : ∀ i x T, T ≤ t → 0 ≤ i → i < 8 → 0 ≤ x → x < 1540 → cz (pwI t 8 0 Z) i x = cz Z i x → exT N Z m i x T → exT N (pwI t 8 0 Z) m i x T := by
      intro i x T hT a b d e r ⟨f, u, g0, g1, g2, g3, g4, g5, g6, g7, g8⟩
      have gj := (hX.2.2 f g0 g1).2
      have o := other (N (23 + f * 9 + 0).toNat) u gj.1.1 gj.1.2 (by omega) (by omega) (by omega)
      exact ⟨f, u, g0, g1, g2, g3, g4, g5, g6, by rw [o]; exact g7, by rw [o, r]; exact g8⟩
    refine ⟨ok, fun i a b => ?_, fun i x a b r1 r2 => ?_, fun f u a b r1 r2 r3 r4 => ?_, fun i x a b r1 r2 => ?_, fun i x a b r1 r2 r3 => ?_⟩
    · rw [other i m a b hm (by omega) (by omega)]
      exact h1 i a b
    · by_cases r : x = t
      · subst r
        rw [at' i a b, other i (x - 1) a b (by omega) (by omega) (by omega)]
        exact (mnC_P _ _).1
      · rw [other i x a b (by omega) (by omega) r, other i (x - 1) a b (by omega) (by omega) (by omega)]
        exact h2 i x a b r1 (by omega)
    · obtain ⟨g1, g2⟩ := hX.2.2 f a b
      have r5 : u < t := by omega
      have r6 := lvA_0 g1 r3
      have r7 := g1.2.2.1
      have o := other (N (23 + f * 9 + 0).toNat) u g2.1.1 g2.1.2 (by omega) (by omega) (by omega)
      rw [o] at r4 ⊢
      exact Int.le_trans (le (N (23 + f * 9 + 1).toNat) _ g2.2.1 g2.2.2 (by omega) (by omega)) (h3 f u a b r1 (Or.inl r5) r3 r4)
    · by_cases r : x = t
      · subst r
        rw [at' i a b, other i (x - 1) a b (by omega) (by omega) (by omega)]
        rcases (mnC_P (cz Z i (x - 1)) (cz Z i x)).2.2 with ⟨e1, e2⟩ | ⟨e1, e2⟩
        · exact Or.inl e1
        · rw [e1]
          rcases h5 i x a b r1 (by omega) (by omega) with e3 | e3
          · have e4 := (h0 (1540 * i + (x - 1)).toNat (by omega)).2
            unfold cz at e2 e3 ⊢
            exact Or.inl (by omega)
          · exact Or.inr (ex i x x (Int.le_refl _) a b (by omega) (by omega) (by rw [at' i a b]; exact e1) e3)
      · have o := other i x a b (by omega) (by omega) r
        rw [o, other i (x - 1) a b (by omega) (by omega) (by omega)]
        rcases h4 i x a b r1 (by omega) with e | e
        · exact Or.inl e
        · exact Or.inr (ex i x x (by omega) a b (by omega) (by omega) o e)
    · have o := other i x a b (by omega) (by omega) (by omega)
      rw [o]
      rcases h5 i x a b r1 (by omega) r3 with e | e
      · exact Or.inl e
      · exact Or.inr (ex i x t (Int.le_refl _) a b (by omega) (by omega) o e)
  · rw [if_neg q]
    exact ⟨h0, h1, fun i x _ _ r1 r2 => by omega, h3, fun i x _ _ r1 r2 => by omega, fun i x a b r1 r2 r3 => h5 i x a b r1 (by omega) r3⟩
theorem pfS_inv {N : Nat → Int} (hX : okW N) {i0 m t f : Int} (hm : 0 ≤ m) (hmt : m ≤ t) (ht : t ≤ 1539) (hf : 0 ≤ f ∧ f < N 0) {Z : Nat → Int} (h : invZ N i0 m t t f (t + 1) Z) : invZ N i0 m t t (f + 1) (t + 1) (pfS N t f Z) := by
  obtain ⟨g1, g2⟩ := hX.2.2 f hf.1 hf.2
  have ok := pfS_ok g1 g2 (show 0 ≤ t by omega) h.1
  obtain ⟨h0, h1, h2, h3, h4, h5⟩ := h
  unfold pfS at ok ⊢
  by_cases q : Z (1540 * (N (23 + f * 9 + 0).toNat) + t).toNat = 1000000 ∨ ¬ lvA N f t
  · rw [if_pos q]
    refine ⟨h0, h1, h2, fun g u a b r1 r2 r3 r4 => ?_, h4, h5⟩
    by_cases e : u = t ∧ g = f
    · obtain ⟨rfl, rfl⟩ := e
      exact absurd (q.elim (fun s => absurd s r4) id) (fun s => s r3)
    · exact h3 g u a b r1 (by omega) r3 r4
  · rw [if_neg q] at ok ⊢
    have hl : lvA N f t := Classical.byContradiction fun r => q (Or.inr r)
    have hs : cz Z (N (23 + f * 9 + 0).toNat) t ≠ 1000000 := fun r => q (Or.inl r)
    have hl1 := hl.1
    have hn := g1.2.2.1
    have cc := fun i x (a : 0 ≤ i) (b : 0 ≤ x ∧ x < 1540) => cz_su (Z := Z) (v := mnC (Z (1540 * (N (23 + f * 9 + 0).toNat) + t).toNat + PR N f t) (Z (1540 * (N (23 + f * 9 + 1).toNat) + (t + (N (23 + f * 9 + 4).toNat))).toNat)) a g2.2.1 b (show 0 ≤ t + (N (23 + f * 9 + 4).toNat) ∧ t + (N (23 + f * 9 + 4).toNat) < 1540 by omega)
    have mp := mnC_P (cz Z (N (23 + f * 9 + 0).toNat) t + PR N f t) (cz Z (N (23 + f * 9 + 1).toNat) (t + (N (23 + f * 9 + 4).toNat)))
    have early : ∀ i x, 0 ≤ i → 0 ≤ x → x ≤ t → cz (su Z (1540 * (N (23 + f * 9 + 1).toNat) + (t + (N (23 + f * 9 + 4).toNat))).toNat (mnC (Z (1540 * (N (23 + f * 9 + 0).toNat) + t).toNat + PR N f t) (Z (1540 * (N (23 + f * 9 + 1).toNat) + (t + (N (23 + f * 9 + 4).toNat))).toNat))) i x = cz Z i x := fun i x a b d => (cc i x a (by omega)).2 (by omega)
    have le : ∀ i x, 0 ≤ i → 0 ≤ x → x < 1540 → cz (su Z (1540 * (N (23 + f * 9 + 1).toNat) + (t + (N (23 + f * 9 + 4).toNat))).toNat (mnC (Z (1540 * (N (23 + f * 9 + 0).toNat) + t).toNat + PR N f t) (Z (1540 * (N (23 + f * 9 + 1).toNat) + (t + (N (23 + f * 9 + 4).toNat))).toNat))) i x ≤ cz Z i x := by
      intro i x a b d
      by_cases r : i = (N (23 + f * 9 + 1).toNat) ∧ x = t + (N (23 + f * 9 + 4).toNat)
      · rw [(cc i x a ⟨b, d⟩).1 r, r.1, r.2]
        exact mp.2.1
      · rw [(cc i x a ⟨b, d⟩).2 r]
        exact Int.le_refl _
    have ex : ∀ i x T, T ≤ t + 1 → 0 ≤ i → cz (su Z (1540 * (N (23 + f * 9 + 1).toNat) + (t + (N (23 + f * 9 + 4).toNat))).toNat (mnC (Z (1540 * (N (23 + f * 9 + 0).toNat) + t).toNat + PR N f t) (Z (1540 * (N (23 + f * 9 + 1).toNat) + (t + (N (23 + f * 9 + 4).toNat))).toNat))) i x = cz Z i x → exT N Z m i x T → exT N (su Z (1540 * (N (23 + f * 9 + 1).toNat) + (t + (N (23 + f * 9 + 4).toNat))).toNat (mnC (Z (1540 * (N (23 + f * 9 + 0).toNat) + t).toNat + PR N f t) (Z (1540 * (N (23 + f * 9 + 1).toNat) + (t + (N (23 + f * 9 + 4).toNat))).toNat))) m i x T := by
      intro i x T hT a r ⟨g, u, q0, q1, q2, q3, q4, q5, q6, q7, q8⟩
      have gj := (hX.2.2 g q0 q1).2
      have o := early (N (23 + g * 9 + 0).toNat) u gj.1.1 (by omega) (by omega)
      exact ⟨g, u, q0, q1, q2, q3, q4, q5, q6, by rw [o]; exact q7, by rw [o, r]; exact q8⟩
    refine ⟨ok, fun i a b => ?_, fun i x a b r1 r2 => ?_, fun g u a b r1 r2 r3 r4 => ?_, fun i x a b r1 r2 => ?_, fun i x a b r1 r2 r3 => ?_⟩
    · rw [early i m a hm hmt]
      exact h1 i a b
    · rw [early i x a (by omega) r2, early i (x - 1) a (by omega) (by omega)]
      exact h2 i x a b r1 r2
    · obtain ⟨k1, k2⟩ := hX.2.2 g a b
      have r6 := lvA_0 k1 r3
      have r7 := k1.2.2.1
      rw [early (N (23 + g * 9 + 0).toNat) u k2.1.1 (by omega) (by omega)] at r4 ⊢
      by_cases e : u = t ∧ g = f
      · obtain ⟨rfl, rfl⟩ := e
        rw [(cc (N (23 + g * 9 + 1).toNat) (u + (N (23 + g * 9 + 4).toNat)) k2.2.1 (by omega)).1 ⟨rfl, rfl⟩]
        exact mp.1
      · exact Int.le_trans (le (N (23 + g * 9 + 1).toNat) _ k2.2.1 (by omega) (by omega)) (h3 g u a b r1 (by omega) r3 r4)
    · rw [early i x a (by omega) r2, early i (x - 1) a (by omega) (by omega)]
      rcases h4 i x a b r1 r2 with e | e
      · exact Or.inl e
      · exact Or.inr (ex i x x (by omega) a (early i x a (by omega) r2) e)
    · by_cases r : i = (N (23 + f * 9 + 1).toNat) ∧ x = t + (N (23 + f * 9 + 4).toNat)
      · have o := (cc i x a (by omega)).1 r
        rcases mp.2.2 with ⟨e1, -⟩ | ⟨e1, -⟩
        · refine Or.inr ⟨f, t, hf.1, hf.2, r.1.symm, hmt, by omega, r.2.symm, hl, ?_, ?_⟩
          · rw [early _ t g2.1.1 (by omega) (Int.le_refl _)]
            exact hs
          · rw [early _ t g2.1.1 (by omega) (Int.le_refl _), o]
            exact e1
        · have e2 : mnC (Z (1540 * (N (23 + f * 9 + 0).toNat) + t).toNat + PR N f t) (Z (1540 * (N (23 + f * 9 + 1).toNat) + (t + (N (23 + f * 9 + 4).toNat))).toNat) = cz Z i x := by rw [r.1, r.2]; exact e1
          have o2 := o.trans e2
          rw [o2]
          rcases h5 i x a b r1 r2 r3 with e | e
          · exact Or.inl e
          · exact Or.inr (ex i x _ (Int.le_refl _) a o2 e)
      · have o := (cc i x a (by omega)).2 r
        rw [o]
        rcases h5 i x a b r1 r2 r3 with e | e
        · exact Or.inl e
        · exact Or.inr (ex i x _ (Int.le_refl _) a o e)
theorem pfI_inv {N : Nat → Int} (hX : okW N) {i0 m t : Int} (hm : 0 ≤ m) (hmt : m ≤ t) (ht : t ≤ 1539) : ∀ (n : Nat) (f : Int) (Z : Nat → Int), f + n = N 0 → 0 ≤ f → invZ N i0 m t t f (t + 1) Z → invZ N i0 m t t (N 0) (t + 1) (pfI N t n f Z) := by
  intro n
  induction n with
  | zero =>
    intro f Z h1 h2 h3
    have e : f = N 0 := by omega
    rw [e] at h3
    exact h3
  | succ n ih =>
    intro f Z h1 h2 h3
    exact ih (f + 1) _ (by omega) (by omega) (pfS_inv hX hm hmt ht ⟨h2, by omega⟩ h3)
theorem ptI_inv {N : Nat → Int} (hX : okW N) {i0 m : Int} (hm : 0 ≤ m) : ∀ (n : Nat) (t : Int) (Z : Nat → Int), t + n = 1540 → m ≤ t → invZ N i0 m (t - 1) t 0 t Z → invZ N i0 m 1539 1540 0 1540 (ptI N m n t Z) := by
  have hN := hX.1
  intro n
  induction n with
  | zero =>
    intro t Z h1 h2 h3
    have e : t = 1540 := by omega
    subst e
    exact h3
  | succ n ih =>
    intro t Z h1 h2 h3
    unfold ptI
    have h4 := pwM_inv hX hm h2 (by omega) h3
    have h5 : invZ N i0 m t t 0 (t + 1) (pwM m t Z) := by
      obtain ⟨k0, k1, k2, k3, k4, k5⟩ := h4
      refine ⟨k0, k1, k2, k3, k4, fun i x a b r1 r2 r3 => ?_⟩
      rcases k5 i x a b r1 r2 r3 with e | ⟨f, u, q0, q1, q2, q3, q4, q5, q6, q7, q8⟩
      · exact Or.inl e
      · exact Or.inr ⟨f, u, q0, q1, q2, q3, by omega, q5, q6, q7, q8⟩
    have h6 := pfI_inv hX hm h2 (by omega) (N 0).toNat 0 _ (by omega) (by omega) h5
    refine ih (t + 1) _ (by omega) (by omega) ?_
    obtain ⟨k0, k1, k2, k3, k4, k5⟩ := h6
    rw [show t + 1 - 1 = t by omega]
    exact ⟨k0, k1, k2, fun f u a b r1 r2 r3 r4 => k3 f u a b r1 (by omega) r3 r4, k4, k5⟩
theorem mPay_inv {N : Nat → Int} (hX : okW N) {i m : Int} (hi : 0 ≤ i ∧ i < 8) (hm : 0 ≤ m ∧ m ≤ 1539) (Z : Nat → Int) : invZ N i m 1539 1540 0 1540 (mPay N i m Z) := by
  unfold mPay
  have cc := fun k x (a : 0 ≤ k) (b : 0 ≤ x ∧ x < 1540) => cz_su (Z := flP Z 12320) (v := 0) a hi.1 b (show 0 ≤ m ∧ m < 1540 by omega)
  have big : ∀ k x, 0 ≤ k → k < 8 → 0 ≤ x → x < 1540 → cz (flP Z 12320) k x = 1000000 := fun k x a b d e => by
    unfold cz flP
    exact if_pos (by omega)
  refine ptI_inv hX hm.1 _ _ _ (by omega) (Int.le_refl _) ⟨okZ_su (flP_ok Z) (by omega), fun k a b => ?_, fun k x _ _ r1 r2 => by omega, fun f u _ _ r1 r2 => by omega, fun k x _ _ r1 r2 => by omega, fun k x a b r1 r2 r3 => Or.inl ?_⟩
  · by_cases e : k = i
    · rw [if_pos e]
      exact (cc k m a (by omega)).1 ⟨e, rfl⟩
    · rw [if_neg e, (cc k m a (by omega)).2 (fun r => e r.1)]
      exact big k m a b (by omega) (by omega)
  · rw [(cc k x a (by omega)).2 (by omega)]
    exact big k x a b (by omega) (by omega)
theorem mPay_tbl {N : Nat → Int} (hX : okW N) {i m : Int} (hi : 0 ≤ i ∧ i < 8) (hm : 0 ≤ m ∧ m ≤ 1539) (Z : Nat → Int) : tblC N i m (fun k x => mPay N i m Z (1540 * k + x).toNat) := by
  obtain ⟨k0, k1, k2, k3, k4, k5⟩ := mPay_inv hX hi hm Z
  refine ⟨k1, fun j t a b r1 r2 => k2 j t a b r1 r2, fun f u a b r1 r2 r3 => ?_, fun j t a b r1 r2 => ?_, fun j t a b r1 r2 => k0 _ (by omega)⟩
  · have r4 := r2.1
    exact k3 f u a b r1 (Or.inl (by omega)) r2 r3
  · rcases k4 j t a b r1 r2 with q | ⟨f, u, q0, q1, q2, q3, q4, q5, q6, q7, q8⟩
    · exact Or.inl q
    · exact Or.inr ⟨f, u, q0, q1, q2, q3, q5, q6, q7, q8⟩
end EQH
