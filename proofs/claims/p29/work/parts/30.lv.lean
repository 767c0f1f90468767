section EQL
/-! leavings: the first from a minute on, the last up to one -/
def tdL (k x : Int) : Prop := k = 0 ∨ (k = 1 ∧ x % 720 < 360) ∨ (k = 2 ∧ ¬ x % 720 < 360)
def lvG (a v k tide t : Int) : Prop := t ≤ 1439 ∧ 0 ≤ t - a ∧ (t - a) % v = 0 ∧ tdL k (t + tide)
def nextP (P : Int → Prop) (m r : Int) : Prop := (r = -1 ∧ ∀ t, m ≤ t → ¬ P t) ∨ (m ≤ r ∧ P r ∧ ∀ t, m ≤ t → P t → r ≤ t)
def lastP (P : Int → Prop) (m r : Int) : Prop := (r = -1 ∧ ∀ t, t ≤ m → ¬ P t) ∨ (0 ≤ r ∧ r ≤ m ∧ P r ∧ ∀ t, t ≤ m → P t → t ≤ r)
theorem nextP_one {P : Int → Prop} {m r q : Int} (hm : 0 ≤ m) (h1 : nextP P m r) (h2 : nextP P m q) : r = q := by
  rcases h1 with ⟨a, b⟩ | ⟨a, b, c⟩
  · rcases h2 with ⟨d, e⟩ | ⟨d, e, f⟩
    · omega
    · exact absurd e (b q d)
  · rcases h2 with ⟨d, e⟩ | ⟨d, e, f⟩
    · exact absurd b (e r a)
    · have := c q d e
      have := f r a b
      omega
theorem lastP_one {P : Int → Prop} {m r q : Int} (h1 : lastP P m r) (h2 : lastP P m q) : r = q := by
  rcases h1 with ⟨a, b⟩ | ⟨a, a2, b, c⟩
  · rcases h2 with ⟨d, e⟩ | ⟨d, d2, e, f⟩
    · omega
    · exact absurd e (b q d2)
  · rcases h2 with ⟨d, e⟩ | ⟨d, d2, e, f⟩
    · exact absurd b (e r a2)
    · have := c q d2 e
      have := f r a2 b
      omega
theorem md_gap {u w v : Int} (h1 : u % v = 0) (h2 : w % v = 0) (h3 : 0 ≤ u - w) (h4 : u - w < v) : u = w := by
  have h5 : (u - w) % v = 0 := by rw [Int.sub_emod, h1, h2]; simp
  rw [Int.emod_eq_of_lt h3 h4] at h5
  omega
theorem md_floor (z v : Int) : (z - z % v) % v = 0 := by
  have h : z - z % v = v * (z / v) := by have := Int.mul_ediv_add_emod z v; omega
  rw [h]
  exact Int.mul_emod_right v _
theorem nOT_P {a v m : Int} (hv : 1 ≤ v) : m ≤ nOT a v m ∧ a ≤ nOT a v m ∧ (nOT a v m - a) % v = 0 ∧ (a < m → nOT a v m < m + v) ∧ ∀ t, m ≤ t → a ≤ t → (t - a) % v = 0 → nOT a v m ≤ t := by
  unfold nOT
  by_cases h1 : m ≤ a
  · rw [if_pos h1]
    refine ⟨h1, Int.le_refl _, ?_, fun h => by omega, fun t _ h _ => h⟩
    rw [Int.sub_self]
    exact Int.zero_emod v
  · rw [if_neg h1]
    have h2 := Int.emod_nonneg (m - a) (show v ≠ 0 by omega)
    have h3 := Int.emod_lt_of_pos (m - a) (show 0 < v by omega)
    by_cases h4 : (m - a) % v = 0
    · rw [if_pos h4]
      exact ⟨Int.le_refl _, by omega, h4, fun _ => by omega, fun t h _ _ => h⟩
    · rw [if_neg h4]
      have h5 := md_floor (m - a) v
      have h6 : (m - (m - a) % v + v - a) % v = 0 := by
        rw [show m - (m - a) % v + v - a = (m - a - (m - a) % v) + v by omega, Int.add_emod_right]
        exact h5
      refine ⟨by omega, by omega, h6, fun _ => by omega, fun t h7 h8 h9 => ?_⟩
      refine Classical.byContradiction fun q => ?_
      have h10 := md_gap (u := t - a) (w := m - a - (m - a) % v) h9 h5 (by omega) (by omega)
      omega
theorem lOT_P {a v m : Int} (ha : 0 ≤ a) (hv : 1 ≤ v) : (lOT a v m = -1 ∧ m < a) ∨ (a ≤ m ∧ a ≤ lOT a v m ∧ lOT a v m ≤ m ∧ m - v < lOT a v m ∧ (lOT a v m - a) % v = 0 ∧ ∀ t, t ≤ m → a ≤ t → (t - a) % v = 0 → t ≤ lOT a v m) := by
  unfold lOT
  by_cases h1 : m < a
  · rw [if_pos h1]; exact Or.inl ⟨rfl, h1⟩
  · rw [if_neg h1]
    have h2 := Int.emod_nonneg (m - a) (show v ≠ 0 by omega)
    have h3 := Int.emod_lt_of_pos (m - a) (show 0 < v by omega)
    have h4 := md_floor (m - a) v
    have h6 : (m - (m - a) % v - a) % v = 0 := by
      rw [show m - (m - a) % v - a = m - a - (m - a) % v by omega]
      exact h4
    have h7 : 0 ≤ m - a - (m - a) % v := by
      refine Classical.byContradiction fun q => ?_
      have h8 := md_gap (u := 0) (w := m - a - (m - a) % v) (Int.zero_emod v) h4 (by omega) (by omega)
      omega
    refine Or.inr ⟨by omega, by omega, by omega, by omega, h6, fun t h8 h9 h10 => ?_⟩
    refine Classical.byContradiction fun q => ?_
    have h11 := md_gap (u := t - a) (w := m - a - (m - a) % v) h10 h4 (by omega) (by omega)
    omega
theorem canc_td {k tide x : Int} (hk : 0 ≤ k ∧ k ≤ 2) : tdL k (x + tide) ↔ ¬ canc k tide x := by
  unfold tdL canc
  omega
theorem canc_far {k tide x t : Int} (h : canc k tide x) (h1 : x ≤ t) (h2 : t < x - (x + tide) % 360 + 360) : canc k tide t := by
  unfold canc at h ⊢
  omega
theorem canc_back {k tide x t : Int} (h : canc k tide x) (h1 : t ≤ x) (h2 : x - (x + tide) % 360 ≤ t) : canc k tide t := by
  unfold canc at h ⊢
  omega
theorem canc_next {k tide x t : Int} (h : canc k tide x) (h1 : x - (x + tide) % 360 + 360 ≤ t) (h2 : t < x - (x + tide) % 360 + 720) : ¬ canc k tide t := by
  unfold canc at h ⊢
  omega
theorem canc_prev {k tide x t : Int} (h : canc k tide x) (h1 : t < x - (x + tide) % 360) (h2 : x - (x + tide) % 360 - 360 ≤ t) : ¬ canc k tide t := by
  unfold canc at h ⊢
  omega
theorem nLv_P {a v k tide m : Int} (ha : 0 ≤ a ∧ a ≤ 199) (hv : 1 ≤ v ∧ v ≤ 199) (hk : 0 ≤ k ∧ k ≤ 2) : nextP (lvG a v k tide) m (nLv a v k tide m) := by
  have fin : ∀ y : Int, m ≤ y → a ≤ y → (y - a) % v = 0 → ¬ canc k tide y → (∀ t, m ≤ t → a ≤ t → (t - a) % v = 0 → ¬ canc k tide t → y ≤ t) → nextP (lvG a v k tide) m (nFin y) := by
    intro y h1 h2 h3 h4 h5
    have h6 : ∀ t, m ≤ t → lvG a v k tide t → y ≤ t := fun t h7 h8 => h5 t h7 (by have := h8.2.1; omega) h8.2.2.1 ((canc_td hk).mp h8.2.2.2)
    unfold nFin
    by_cases h7 : 1439 < y
    · rw [if_pos h7]
      exact Or.inl ⟨rfl, fun t h8 h9 => by have := h6 t h8 h9; have := h9.1; omega⟩
    · rw [if_neg h7]
      exact Or.inr ⟨h1, ⟨by omega, by omega, h3, (canc_td hk).mpr h4⟩, h6⟩
  unfold nLv nSk
  obtain ⟨p1, p2, p3, p4, p5⟩ := nOT_P (a := a) (v := v) (m := m) hv.1
  generalize nOT a v m = x at p1 p2 p3 p4 p5
  by_cases hc : canc k tide x
  · rw [if_pos hc]
    have hr : 0 ≤ (x + tide) % 360 ∧ (x + tide) % 360 < 360 := by omega
    obtain ⟨q1, q2, q3, q4, q5⟩ := nOT_P (a := a) (v := v) (m := x - (x + tide) % 360 + 360) hv.1
    have q6 := q4 (by omega)
    refine fin _ (by omega) q2 q3 (canc_next hc q1 (by omega)) (fun t h1 h2 h3 h4 => ?_)
    have h5 := p5 t h1 h2 h3
    refine q5 t (Classical.byContradiction fun q => h4 (canc_far hc h5 (by omega))) h2 h3
  · rw [if_neg hc]
    exact fin x p1 p2 p3 hc (fun t h1 h2 h3 _ => p5 t h1 h2 h3)
theorem lLv_P {a v k tide m : Int} (ha : 0 ≤ a ∧ a ≤ 199) (hv : 1 ≤ v ∧ v ≤ 199) (hk : 0 ≤ k ∧ k ≤ 2) : lastP (lvG a v k tide) m (lLv a v k tide m) := by
  have fin : ∀ y : Int, y ≤ m → y ≤ 1439 → a ≤ y → (y - a) % v = 0 → ¬ canc k tide y → (∀ t, t ≤ m → t ≤ 1439 → a ≤ t → (t - a) % v = 0 → ¬ canc k tide t → t ≤ y) → lastP (lvG a v k tide) m y := by
    intro y h1 h1a h2 h3 h4 h5
    exact Or.inr ⟨by omega, h1, ⟨h1a, by omega, h3, (canc_td hk).mpr h4⟩, fun t h7 h8 => h5 t h7 h8.1 (by have := h8.2.1; omega) h8.2.2.1 ((canc_td hk).mp h8.2.2.2)⟩
  have non : (∀ t, t ≤ m → t ≤ 1439 → a ≤ t → (t - a) % v = 0 → canc k tide t) → lastP (lvG a v k tide) m (-1) := by
    intro h
    exact Or.inl ⟨rfl, fun t h7 h8 => (canc_td hk).mp h8.2.2.2 (h t h7 h8.1 (by have := h8.2.1; omega) h8.2.2.1)⟩
  unfold lLv lSk
  have hm : (if 1439 < m then 1439 else m) ≤ m ∧ (if 1439 < m then 1439 else m) ≤ 1439 ∧ ∀ t, t ≤ m → t ≤ 1439 → t ≤ (if 1439 < m then 1439 else m) := by
    split
    · exact ⟨by omega, by omega, fun t _ h => h⟩
    · exact ⟨by omega, by omega, fun t h _ => h⟩
  generalize (if 1439 < m then 1439 else m) = m' at hm
  obtain ⟨m1, m2, m3⟩ := hm
  rcases lOT_P (a := a) (v := v) (m := m') ha.1 hv.1 with ⟨p1, p2⟩ | ⟨p0, p1, p2, p3, p4, p5⟩
  · rw [p1, if_neg (fun q => q.1 rfl)]
    exact non (fun t h1 h2 h3 _ => by have := m3 t h1 h2; omega)
  · generalize lOT a v m' = x at p1 p2 p3 p4 p5
    by_cases hc : canc k tide x
    · rw [if_pos ⟨by omega, hc⟩]
      have hr : 0 ≤ (x + tide) % 360 ∧ (x + tide) % 360 < 360 := by omega
      rcases lOT_P (a := a) (v := v) (m := x - (x + tide) % 360 - 1) ha.1 hv.1 with ⟨q1, q2⟩ | ⟨q0, q1, q2, q3, q4, q5⟩
      · rw [q1]
        exact non (fun t h1 h2 h3 h4 => canc_back hc (p5 t (m3 t h1 h2) h3 h4) (by omega))
      · refine fin _ (by omega) (by omega) q1 q4 (canc_prev hc (by omega) (by omega)) (fun t h1 h2 h3 h4 h5 => ?_)
        have h6 := p5 t (m3 t h1 h2) h3 h4
        exact q5 t (Classical.byContradiction fun q => h5 (canc_back hc h6 (by omega))) h3 h4
    · rw [if_neg (fun q => hc q.2)]
      exact fin x (by omega) (by omega) p1 p4 hc (fun t h1 h2 h3 h4 _ => p5 t (m3 t h1 h2) h3 h4)
def lvA (N : Nat → Int) (f t : Int) : Prop := lvG (N (23 + f * 9 + 2).toNat) (N (23 + f * 9 + 3).toNat) (N (23 + f * 9 + 6).toNat) (N 1) t
theorem NL_P {N : Nat → Int} {f : Int} (hf : okF N f) (m : Int) : nextP (lvA N f) m (NL N f m) := by
  have k := hf
  unfold okF at k
  exact nLv_P (tide := N 1) (m := m) k.1 k.2.1 k.2.2.2.2.1
theorem LL_P {N : Nat → Int} {f : Int} (hf : okF N f) (m : Int) : lastP (lvA N f) m (LL N f m) := by
  have k := hf
  unfold okF at k
  exact lLv_P (tide := N 1) (m := m) k.1 k.2.1 k.2.2.2.2.1
/-- a good row -/
def RG (N : Nat → Int) : Prop := True ∧ okW N ∧ True
theorem RG_of {N : Nat → Int} (h : okW N) : RG N := ⟨trivial, h, trivial⟩
theorem RG_G {N : Nat → Int} (h : RG N) {f : Int} (h0 : 0 ≤ f) (h1 : f < N 0) : okF N f ∧ okI N f := h.2.1.2.2 f h0 h1
theorem RG_NLP {N : Nat → Int} (h : RG N) {f : Int} (h0 : 0 ≤ f) (h1 : f < N 0) (m : Int) : nextP (lvA N f) m (NL N f m) := NL_P (RG_G h h0 h1).1 m
theorem lvA_0 {N : Nat → Int} {f t : Int} (hg : okF N f) (h : lvA N f t) : 0 ≤ t ∧ t ≤ 1439 := by
  have h1 := h.1
  have h2 := h.2.1
  have h3 := hg.1.1
  omega
def unB (x : Int) : Int := if x = 1000000 then -1 else x
end EQL
