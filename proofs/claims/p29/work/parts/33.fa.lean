noncomputable section EQF
/-! fares: the class's search, against any table that tells the fewest coins by islands and minutes -/
def tblC (N : Nat → Int) (i0 m : Int) (c : Int → Int → Int) : Prop :=
  (∀ i, 0 ≤ i → i < 8 → c i m = if i = i0 then 0 else 1000000) ∧
  (∀ i t, 0 ≤ i → i < 8 → m < t → t ≤ 1539 → c i t ≤ c i (t - 1)) ∧
  (∀ f u, 0 ≤ f → f < N 0 → m ≤ u → lvA N f u → c (N (23 + f * 9 + 0).toNat) u ≠ 1000000 → c (N (23 + f * 9 + 1).toNat) (u + (N (23 + f * 9 + 4).toNat)) ≤ c (N (23 + f * 9 + 0).toNat) u + PR N f u) ∧
  (∀ i t, 0 ≤ i → i < 8 → m < t → t ≤ 1539 → c i t = c i (t - 1) ∨ ∃ f u, 0 ≤ f ∧ f < N 0 ∧ (N (23 + f * 9 + 1).toNat) = i ∧ m ≤ u ∧ u + (N (23 + f * 9 + 4).toNat) = t ∧ lvA N f u ∧ c (N (23 + f * 9 + 0).toNat) u ≠ 1000000 ∧ c i t = c (N (23 + f * 9 + 0).toNat) u + PR N f u) ∧
  ∀ i t, 0 ≤ i → i < 8 → m ≤ t → t ≤ 1539 → 0 ≤ c i t ∧ c i t ≤ 1000000
theorem nCh_P {N : Nat → Int} (h : RG N) {f : Int} (h0 : 0 ≤ f) (h1 : f < N 0) : ∀ (n : Nat) (y : Int), 1440 - y ≤ n → 0 ≤ y →
    (nCh N f n (NL N f y) = -1 ∨ (y ≤ nCh N f n (NL N f y) ∧ lvA N f (nCh N f n (NL N f y)))) ∧ ∀ u, y ≤ u → lvA N f u → (nCh N f n (NL N f y) = -1 ∨ u < nCh N f n (NL N f y)) → (u + (N (23 + f * 9 + 7).toNat)) % 60 < N 2 := by
  have hg := (RG_G h h0 h1).1
  have hs := h.2.1.2.1
  unfold okS at hs
  intro n
  induction n with
  | zero =>
    intro y h2 h3
    refine ⟨Or.inl rfl, fun u h4 h5 _ => ?_⟩
    have := h5.1
    omega
  | succ n ih =>
    intro y h2 h3
    have hp := RG_NLP h h0 h1 y
    unfold nCh
    rcases hp with ⟨a, b⟩ | ⟨a, b, c⟩
    · rw [if_pos a]
      exact ⟨Or.inl rfl, fun u h4 h5 _ => absurd h5 (b u h4)⟩
    · have hx := lvA_0 hg b
      rw [if_neg (show ¬ NL N f y = -1 by omega)]
      generalize NL N f y = x at a b c hx
      by_cases h4 : N 2 ≤ (x + (N (23 + f * 9 + 7).toNat)) % 60
      · rw [if_pos h4]
        refine ⟨Or.inr ⟨a, b⟩, fun u h5 h6 h7 => ?_⟩
        have := c u h5 h6
        omega
      · rw [if_neg h4]
        have h5 := ih (x - (x + (N (23 + f * 9 + 7).toNat)) % 60 + N 2) (by omega) (by omega)
        refine ⟨?_, fun u h6 h7 h8 => ?_⟩
        · rcases h5.1 with q | q
          · exact Or.inl q
          · exact Or.inr ⟨by omega, q.2⟩
        · by_cases h9 : x - (x + (N (23 + f * 9 + 7).toNat)) % 60 + N 2 ≤ u
          · exact h5.2 u h9 h7 h8
          · have := c u h6 h7
            omega
theorem oNv_P {N : Nat → Int} (h : RG N) {f t : Int} (h0 : 0 ≤ f) (h1 : f < N 0) (ht : 0 ≤ t ∧ t ≤ 1540) : (oNv (NL N f t) = 1540 ∨ lvA N f (oNv (NL N f t))) ∧ t ≤ oNv (NL N f t) ∧ ∀ u, t ≤ u → lvA N f u → ¬ u < oNv (NL N f t) := by
  have hg := (RG_G h h0 h1).1
  unfold oNv
  rcases RG_NLP h h0 h1 t with ⟨a, b⟩ | ⟨a, b, c⟩
  · rw [if_pos a]
    exact ⟨Or.inl rfl, ht.2, fun u h2 h3 => absurd h3 (b u h2)⟩
  · have hx := lvA_0 hg b
    rw [if_neg (show ¬ NL N f t = -1 by omega)]
    exact ⟨Or.inr b, a, fun u h2 h3 => Int.not_lt.mpr (c u h2 h3)⟩
theorem lbB_P {N : Nat → Int} (h : RG N) {f t : Int} (h0 : 0 ≤ f) (h1 : f < N 0) (ht : 0 ≤ t ∧ t ≤ 1539) : (lbB N f t = 1540 ∨ lvA N f (lbB N f t)) ∧ t + 1 ≤ lbB N f t ∧ ∀ u, t + 1 ≤ u → lvA N f u → u < lbB N f t → PR N f t ≤ PR N f u := by
  have hg := (RG_G h h0 h1).1
  have hf := (h.2.1.2.2 f h0 h1).1
  have hpr : ∀ u, (N (23 + f * 9 + 5).toNat) ≤ PR N f u ∧ PR N f u ≤ 2 * (N (23 + f * 9 + 5).toNat) := by
    intro u
    have := hf.2.2.2.1
    unfold PR
    split <;> omega
  unfold lbB
  by_cases h2 : (N (23 + f * 9 + 5).toNat) < PR N f t
  · rw [if_pos h2]
    have h3 := nCh_P h h0 h1 1440 (t + 1) (by omega) (by omega)
    unfold oNv
    have dear : ∀ u, (u + (N (23 + f * 9 + 7).toNat)) % 60 < N 2 → PR N f t ≤ PR N f u := by
      intro u h4
      have := hpr t
      have e : PR N f u = 2 * (N (23 + f * 9 + 5).toNat) := by unfold PR; rw [if_pos h4]
      omega
    generalize nCh N f 1440 (NL N f (t + 1)) = r at h3
    by_cases h4 : r = -1
    · rw [if_pos h4]
      exact ⟨Or.inl rfl, by omega, fun u h5 h6 _ => dear u (h3.2 u h5 h6 (Or.inl h4))⟩
    · rw [if_neg h4]
      rcases h3.1 with q | q
      · exact absurd q h4
      · exact ⟨Or.inr q.2, q.1, fun u h5 h6 h7 => dear u (h3.2 u h5 h6 (Or.inr h7))⟩
  · rw [if_neg h2]
    refine ⟨Or.inl rfl, by omega, fun u _ _ _ => ?_⟩
    have := hpr t
    have := hpr u
    omega
theorem ctIn_at (N : Nat → Int) (i t : Int) : ∀ (n : Nat) (f : Int) (B : Nat → Int) (nb g : Int), 0 ≤ f → 0 ≤ g → ((f ≤ g ∧ g < f + n) ∧ (N (23 + g * 9 + 0).toNat) = i → (ctIn N i t n f B nb).1 g.toNat = oNv (NL N g t)) ∧ (¬ ((f ≤ g ∧ g < f + n) ∧ (N (23 + g * 9 + 0).toNat) = i) → (ctIn N i t n f B nb).1 g.toNat = B g.toNat) := by
  intro n
  induction n with
  | zero =>
    intro f B nb g h1 h2
    exact ⟨fun h => by omega, fun _ => rfl⟩
  | succ n ih =>
    intro f B nb g h1 h2
    unfold ctIn
    by_cases h3 : (N (23 + f * 9 + 0).toNat) = i
    · rw [if_pos h3]
      have h4 := ih (f + 1) (su B f.toNat (oNv (NL N f t))) (mn nb (oNv (NL N f t))) g (by omega) h2
      by_cases h5 : g = f
      · subst h5
        have h6 := h4.2 (by omega)
        rw [h6, su_s]
        exact ⟨fun _ => rfl, fun q => absurd ⟨by omega, h3⟩ q⟩
      · rw [su_n (show g.toNat ≠ f.toNat by omega)] at h4
        exact ⟨fun q => h4.1 ⟨by omega, q.2⟩, fun q => h4.2 (fun r => q ⟨by omega, r.2⟩)⟩
    · rw [if_neg h3]
      have h4 := ih (f + 1) B nb g (by omega) h2
      refine ⟨fun q => h4.1 ⟨?_, q.2⟩, fun q => h4.2 (fun r => q ⟨by omega, r.2⟩)⟩
      have : g ≠ f := fun r => h3 (by rw [← r]; exact q.2)
      omega
theorem ctIn_nb (N : Nat → Int) (i t : Int) : ∀ (n : Nat) (f : Int) (B : Nat → Int) (nb : Int), (ctIn N i t n f B nb).2 ≤ nb ∧ (∀ g, f ≤ g → g < f + n → (N (23 + g * 9 + 0).toNat) = i → (ctIn N i t n f B nb).2 ≤ oNv (NL N g t)) ∧ ((t ≤ nb ∧ ∀ g, f ≤ g → g < f + n → (N (23 + g * 9 + 0).toNat) = i → t ≤ oNv (NL N g t)) → t ≤ (ctIn N i t n f B nb).2) := by
  intro n
  induction n with
  | zero =>
    intro f B nb
    exact ⟨Int.le_refl _, fun g h1 h2 => by omega, fun h => h.1⟩
  | succ n ih =>
    intro f B nb
    unfold ctIn
    by_cases h3 : (N (23 + f * 9 + 0).toNat) = i
    · rw [if_pos h3]
      have hm : mn nb (oNv (NL N f t)) ≤ nb ∧ mn nb (oNv (NL N f t)) ≤ oNv (NL N f t) ∧ (mn nb (oNv (NL N f t)) = nb ∨ mn nb (oNv (NL N f t)) = oNv (NL N f t)) := by
        show (if oNv (NL N f t) < nb then oNv (NL N f t) else nb) ≤ nb ∧ (if oNv (NL N f t) < nb then oNv (NL N f t) else nb) ≤ oNv (NL N f t) ∧ ((if oNv (NL N f t) < nb then oNv (NL N f t) else nb) = nb ∨ (if oNv (NL N f t) < nb then oNv (NL N f t) else nb) = oNv (NL N f t))
        split <;> omega
      obtain ⟨k1, k2, k3⟩ := ih (f + 1) (su B f.toNat (oNv (NL N f t))) (mn nb (oNv (NL N f t)))
      refine ⟨by omega, fun g h4 h5 h6 => ?_, fun h => k3 ⟨?_, fun g h4 h5 h6 => h.2 g (by omega) (by omega) h6⟩⟩
      · by_cases h7 : g = f
        · subst h7; omega
        · exact k2 g (by omega) (by omega) h6
      · have := h.2 f (by omega) (by omega) h3
        omega
    · rw [if_neg h3]
      obtain ⟨k1, k2, k3⟩ := ih (f + 1) B nb
      refine ⟨k1, fun g h4 h5 h6 => ?_, fun h => k3 ⟨h.1, fun g h4 h5 h6 => h.2 g (by omega) (by omega) h6⟩⟩
      have : g ≠ f := fun r => h3 (by rw [← r]; exact h6)
      exact k2 g (by omega) (by omega) h6
/-- who comes at t changes an island's fare -/
def chg (M E F : Nat → Int) (t j : Int) : Prop := bitT (M (t % 100).toNat) j = true ∧ ¬ (F j.toNat ≠ -1 ∧ F j.toNat ≤ E (t % 100 * 8 + j).toNat)
theorem chg_cong {M E F F' : Nat → Int} {t j : Int} (h : F' j.toNat = F j.toNat) : chg M E F' t j ↔ chg M E F t j := by
  unfold chg
  rw [h]
theorem lcIn_at {N : Nat → Int} {t : Int} {M E : Nat → Int} (hN : 0 ≤ N 0) (hsrc : ∀ g : Int, 0 ≤ g → g < N 0 → 0 ≤ (N (23 + g * 9 + 0).toNat) ∧ (N (23 + g * 9 + 0).toNat) < 8) (ht : ∀ g : Int, 0 ≤ g → g < N 0 → t ≤ oNv (NL N g t)) : ∀ (n : Nat) (i : Int) (F B : Nat → Int) (nb : Int), i + n = 8 → 0 ≤ i →
    (∀ j, 0 ≤ j → j < 8 → (i ≤ j ∧ chg M E F t j → (lcIn N t M E n i F B nb).1 j.toNat = E (t % 100 * 8 + j).toNat) ∧ (¬ (i ≤ j ∧ chg M E F t j) → (lcIn N t M E n i F B nb).1 j.toNat = F j.toNat)) ∧
    (∀ g, 0 ≤ g → g < N 0 → (i ≤ (N (23 + g * 9 + 0).toNat) ∧ chg M E F t (N (23 + g * 9 + 0).toNat) → (lcIn N t M E n i F B nb).2.1 g.toNat = oNv (NL N g t)) ∧ (¬ (i ≤ (N (23 + g * 9 + 0).toNat) ∧ chg M E F t (N (23 + g * 9 + 0).toNat)) → (lcIn N t M E n i F B nb).2.1 g.toNat = B g.toNat)) ∧
    ((t ≤ nb ∧ ∀ g, 0 ≤ g → g < N 0 → nb ≤ B g.toNat) → t ≤ (lcIn N t M E n i F B nb).2.2 ∧ ∀ g, 0 ≤ g → g < N 0 → (lcIn N t M E n i F B nb).2.2 ≤ (lcIn N t M E n i F B nb).2.1 g.toNat) := by
  intro n
  induction n with
  | zero =>
    intro i F B nb h1 h2
    refine ⟨fun j h3 h4 => ⟨fun h => by omega, fun _ => rfl⟩, fun g h3 h4 => ⟨fun h => ?_, fun _ => rfl⟩, fun h => h⟩
    have := hsrc g h3 h4
    omega
  | succ n ih =>
    intro i F B nb h1 h2
    unfold lcIn
    by_cases h3 : bitT (M (t % 100).toNat) i = false
    · rw [if_pos h3]
      obtain ⟨k1, k2, k3⟩ := ih (i + 1) F B nb (by omega) (by omega)
      have no : ¬ chg M E F t i := fun q => by have := q.1; rw [h3] at this; cases this
      have ne : ∀ j, (i ≤ j ∧ chg M E F t j) ↔ (i + 1 ≤ j ∧ chg M E F t j) := by
        intro j
        constructor
        · rintro ⟨q1, q2⟩
          refine ⟨?_, q2⟩
          have : j ≠ i := fun r => no (by rw [← r]; exact q2)
          omega
        · rintro ⟨q1, q2⟩
          exact ⟨by omega, q2⟩
      exact ⟨fun j h4 h5 => by rw [ne]; exact k1 j h4 h5, fun g h4 h5 => by rw [ne]; exact k2 g h4 h5, k3⟩
    · rw [if_neg h3]
      have hb : bitT (M (t % 100).toNat) i = true := by
        cases q : bitT (M (t % 100).toNat) i
        · exact absurd q h3
        · rfl
      unfold cT
      by_cases h4 : F i.toNat ≠ -1 ∧ F i.toNat ≤ E (t % 100 * 8 + i).toNat
      · rw [if_pos h4]
        dsimp only
        obtain ⟨k1, k2, k3⟩ := ih (i + 1) F B nb (by omega) (by omega)
        have no : ¬ chg M E F t i := fun q => q.2 h4
        have ne : ∀ j, (i ≤ j ∧ chg M E F t j) ↔ (i + 1 ≤ j ∧ chg M E F t j) := by
          intro j
          constructor
          · rintro ⟨q1, q2⟩
            refine ⟨?_, q2⟩
            have : j ≠ i := fun r => no (by rw [← r]; exact q2)
            omega
          · rintro ⟨q1, q2⟩
            exact ⟨by omega, q2⟩
        exact ⟨fun j h4 h5 => by rw [ne]; exact k1 j h4 h5, fun g h4 h5 => by rw [ne]; exact k2 g h4 h5, k3⟩
      · rw [if_neg h4]
        dsimp only
        have yes : chg M E F t i := ⟨hb, h4⟩
        obtain ⟨k1, k2, k3⟩ := ih (i + 1) (su F i.toNat (E (t % 100 * 8 + i).toNat)) (ctIn N i t (N 0).toNat 0 B nb).1 (ctIn N i t (N 0).toNat 0 B nb).2 (by omega) (by omega)
        have cg : ∀ j, 0 ≤ j → i + 1 ≤ j → (chg M E (su F i.toNat (E (t % 100 * 8 + i).toNat)) t j ↔ chg M E F t j) := fun j q1 q2 => chg_cong (su_n (by omega))
        have ca := fun g (q1 : 0 ≤ g) => ctIn_at N i t (N 0).toNat 0 B nb g (Int.le_refl 0) q1
        have cn := ctIn_nb N i t (N 0).toNat 0 B nb
        refine ⟨fun j h5 h6 => ?_, fun g h5 h6 => ?_, fun h => k3 ⟨?_, fun g h5 h6 => ?_⟩⟩
        · by_cases h7 : j = i
          · subst h7
            have h8 := (k1 j h5 h6).2 (by omega)
            rw [h8, su_s]
            exact ⟨fun _ => rfl, fun q => absurd ⟨Int.le_refl _, yes⟩ q⟩
          · have h8 := k1 j h5 h6
            rw [su_n (show j.toNat ≠ i.toNat by omega)] at h8
            exact ⟨fun q => h8.1 ⟨by omega, (cg j h5 (by omega)).mpr q.2⟩, fun q => h8.2 (fun r => q ⟨by omega, (cg j h5 r.1).mp r.2⟩)⟩
        · have hs := hsrc g h5 h6
          have h8 := k2 g h5 h6
          by_cases h7 : (N (23 + g * 9 + 0).toNat) = i
          · have h9 := h8.2 (by omega)
            rw [h9, (ca g h5).1 ⟨by omega, h7⟩]
            exact ⟨fun _ => rfl, fun q => absurd ⟨by omega, by rw [h7]; exact yes⟩ q⟩
          · rw [(ca g h5).2 (fun r => h7 r.2)] at h8
            exact ⟨fun q => h8.1 ⟨by omega, (cg _ hs.1 (by omega)).mpr q.2⟩, fun q => h8.2 (fun r => q ⟨by omega, (cg _ hs.1 r.1).mp r.2⟩)⟩
        · exact cn.2.2 ⟨h.1, fun g q1 q2 _ => ht g q1 (by omega)⟩
        · by_cases h7 : (N (23 + g * 9 + 0).toNat) = i
          · rw [(ca g h5).1 ⟨by omega, h7⟩]
            exact cn.2.1 g h5 (by omega) h7
          · rw [(ca g h5).2 (fun r => h7 r.2)]
            have := h.2 g h5 h6
            omega
/-- somebody is expected on an island at a minute, for at most so many coins -/
def pd (M E : Nat → Int) (i x v : Int) : Prop := bitT (M (x % 100).toNat) i = true ∧ E (x % 100 * 8 + i).toNat ≤ v
theorem bitT_S2 {m i j : Int} (hm : 0 ≤ m ∧ m < 256) (hi : 0 ≤ i ∧ i < 8) (hj : 0 ≤ j ∧ j < 8) : bitT (bitS m i) j = true ↔ (bitT m j = true ∨ i = j) := by
  have h := bitT_S hm hi hj
  cases h1 : bitT (bitS m i) j <;> cases h2 : bitT m j <;> rw [h1, h2] at h <;> simp at h ⊢ <;> exact h
theorem exU_bit {M E : Nat → Int} {i x c : Int} (hM : okM M) (hi : 0 ≤ i ∧ i < 8) {j y : Int} (hj : 0 ≤ j ∧ j < 8) :
    (bitT ((exU M E i x c).1 (y % 100).toNat) j = true ↔ (bitT (M (y % 100).toNat) j = true ∨ (j = i ∧ y % 100 = x % 100))) ∧
    ((j = i ∧ y % 100 = x % 100) → (exU M E i x c).2 (y % 100 * 8 + j).toNat ≤ c ∧ (bitT (M (y % 100).toNat) j = true → (exU M E i x c).2 (y % 100 * 8 + j).toNat ≤ E (y % 100 * 8 + j).toNat) ∧ ((exU M E i x c).2 (y % 100 * 8 + j).toNat = c ∨ (bitT (M (y % 100).toNat) j = true ∧ (exU M E i x c).2 (y % 100 * 8 + j).toNat = E (y % 100 * 8 + j).toNat))) ∧
    (¬ (j = i ∧ y % 100 = x % 100) → (exU M E i x c).2 (y % 100 * 8 + j).toNat = E (y % 100 * 8 + j).toNat) := by
  unfold exU exP
  have hm := hM (x % 100).toNat (by omega)
  by_cases h : exM M E i x c
  · rw [if_pos h, if_pos h]
    dsimp only
    refine ⟨?_, fun q => ?_, fun q => ?_⟩
    · by_cases h1 : y % 100 = x % 100
      · rw [h1, su_s, bitT_S2 hm hi hj]
        constructor
        · rintro (q | q)
          · exact Or.inl q
          · exact Or.inr ⟨q.symm, rfl⟩
        · rintro (q | q)
          · exact Or.inl q
          · exact Or.inr q.1.symm
      · rw [su_n (show (y % 100).toNat ≠ (x % 100).toNat by omega)]
        exact ⟨Or.inl, fun q => q.elim id (fun r => absurd r.2 h1)⟩
    · obtain ⟨rfl, q2⟩ := q
      rw [q2, su_s]
      refine ⟨Int.le_refl _, fun r => ?_, Or.inl rfl⟩
      rcases h with s | s
      · rw [s] at r; cases r
      · omega
    · exact su_n (by omega)
  · rw [if_neg h, if_neg h]
    dsimp only
    unfold exM at h
    have h1 : bitT (M (x % 100).toNat) i = true := by
      cases q : bitT (M (x % 100).toNat) i
      · exact absurd (Or.inl q) h
      · rfl
    have h2 : E (x % 100 * 8 + i).toNat ≤ c := by
      refine Classical.byContradiction fun q => h (Or.inr (by omega))
    refine ⟨⟨Or.inl, fun q => q.elim id (fun r => by rw [r.1, r.2]; exact h1)⟩, fun q => ?_, fun _ => rfl⟩
    obtain ⟨rfl, q2⟩ := q
    rw [q2]
    exact ⟨h2, fun _ => Int.le_refl _, Or.inr ⟨h1, rfl⟩⟩
theorem exU_pd {M E : Nat → Int} {i x c : Int} (hM : okM M) (hi : 0 ≤ i ∧ i < 8) : pd (exU M E i x c).1 (exU M E i x c).2 i x c :=
  ⟨(exU_bit hM hi (j := i) (y := x) hi).1.mpr (Or.inr ⟨rfl, rfl⟩), ((exU_bit hM hi (j := i) (y := x) hi).2.1 ⟨rfl, rfl⟩).1⟩
theorem exU_mon {M E : Nat → Int} {i x c : Int} (hM : okM M) (hi : 0 ≤ i ∧ i < 8) {j y v : Int} (hj : 0 ≤ j ∧ j < 8) (h : pd M E j y v) : pd (exU M E i x c).1 (exU M E i x c).2 j y v := by
  have k := exU_bit (E := E) (x := x) (c := c) hM hi (j := j) (y := y) hj
  refine ⟨k.1.mpr (Or.inl h.1), ?_⟩
  have := h.2
  by_cases h1 : j = i ∧ y % 100 = x % 100
  · have := (k.2.1 h1).2.1 h.1
    omega
  · rw [k.2.2 h1]
    exact h.2
/-- what is expected in a window of minutes is no less than the table says -/
def lbp (c : Int → Int → Int) (lo hi lim : Int) (M E : Nat → Int) : Prop := ∀ j x, 0 ≤ j → j < 8 → lo ≤ x → x ≤ hi → bitT (M (x % 100).toNat) j = true → x ≤ lim ∧ c j x ≤ E (x % 100 * 8 + j).toNat
theorem exU_lbp {c : Int → Int → Int} {lo hi lim : Int} {M E : Nat → Int} {i x v : Int} (hM : okM M) (hi' : 0 ≤ i ∧ i < 8) (hw : hi ≤ lo + 99) (hx : lo ≤ x ∧ x ≤ hi ∧ x ≤ lim) (hv : c i x ≤ v) (h : lbp c lo hi lim M E) : lbp c lo hi lim (exU M E i x v).1 (exU M E i x v).2 := by
  intro j y h1 h2 h3 h4 h5
  have k := exU_bit (E := E) (x := x) (c := v) hM hi' (j := j) (y := y) ⟨h1, h2⟩
  by_cases h6 : j = i ∧ y % 100 = x % 100
  · obtain ⟨-, -, k3⟩ := k.2.1 h6
    have e : y = x := by omega
    rcases k3 with q | ⟨q1, q2⟩
    · rw [q, e, h6.1]
      exact ⟨hx.2.2, hv⟩
    · rw [q2]
      exact h j y h1 h2 h3 h4 q1
  · rw [k.2.2 h6]
    rcases k.1.mp h5 with q | q
    · exact h j y h1 h2 h3 h4 q
    · exact absurd q h6
theorem lbIn_at {N : Nat → Int} {t lim : Int} {F : Nat → Int} (hW : okW N) (ht : 0 ≤ t) (hF : okFa F 399000) : ∀ (n : Nat) (f : Int) (B M E : Nat → Int) (nb : Int), f + n = N 0 → 0 ≤ f → okB B nb → okM M → okE E →
    (∀ g, 0 ≤ g → ((f ≤ g ∧ g < N 0) ∧ B g.toNat = t → (lbIn N t lim F n f B M E nb).1 g.toNat = lbB N g t) ∧ (¬ ((f ≤ g ∧ g < N 0) ∧ B g.toNat = t) → (lbIn N t lim F n f B M E nb).1 g.toNat = B g.toNat)) ∧
    ((lbIn N t lim F n f B M E nb).2.2.2 ≤ nb ∧ (∀ g, f ≤ g → g < N 0 → (lbIn N t lim F n f B M E nb).2.2.2 ≤ (lbIn N t lim F n f B M E nb).1 g.toNat) ∧ ∀ lo, (lo ≤ nb ∧ ∀ g, f ≤ g → g < N 0 → lo ≤ (lbIn N t lim F n f B M E nb).1 g.toNat) → lo ≤ (lbIn N t lim F n f B M E nb).2.2.2) ∧
    (∀ j x v, 0 ≤ j → j < 8 → pd M E j x v → pd (lbIn N t lim F n f B M E nb).2.1 (lbIn N t lim F n f B M E nb).2.2.1 j x v) ∧
    (∀ g, f ≤ g → g < N 0 → B g.toNat = t → t + (N (23 + g * 9 + 4).toNat) ≤ lim → pd (lbIn N t lim F n f B M E nb).2.1 (lbIn N t lim F n f B M E nb).2.2.1 (N (23 + g * 9 + 1).toNat) (t + (N (23 + g * 9 + 4).toNat)) (F (N (23 + g * 9 + 0).toNat).toNat + PR N g t)) ∧
    (∀ c : Int → Int → Int, (∀ g, f ≤ g → g < N 0 → B g.toNat = t → t + (N (23 + g * 9 + 4).toNat) ≤ lim → c (N (23 + g * 9 + 1).toNat) (t + (N (23 + g * 9 + 4).toNat)) ≤ F (N (23 + g * 9 + 0).toNat).toNat + PR N g t) → lbp c (t + 1) (t + 100) lim M E → lbp c (t + 1) (t + 100) lim (lbIn N t lim F n f B M E nb).2.1 (lbIn N t lim F n f B M E nb).2.2.1) := by
  intro n
  induction n with
  | zero =>
    intro f B M E nb h1 h2 h3 h4 h5
    exact ⟨fun g h6 => ⟨fun h => by omega, fun _ => rfl⟩, ⟨Int.le_refl _, fun g h6 h7 => by omega, fun lo h => h.1⟩, fun j x v _ _ h => h, fun g h6 h7 => by omega, fun c _ h => h⟩
  | succ n ih =>
    intro f B M E nb h1 h2 h3 h4 h5
    obtain ⟨w1, w2⟩ := hW.2.2 f h2 (by omega)
    have hN := hW.1
    have hn := w1.2.2.1
    have hs := lbS_ok (m := t) (lim := lim) w1 w2 (by omega) ht hF h3 h4 h5
    obtain ⟨k1, ⟨k2, k3, k4⟩, k5, k6, k7⟩ := ih (f + 1) (lbS N t lim f F B M E nb).1 (lbS N t lim f F B M E nb).2.1 (lbS N t lim f F B M E nb).2.2.1 (lbS N t lim f F B M E nb).2.2.2 (by omega) (by omega) hs.1 hs.2.1 hs.2.2
    -- what the step at f does
    have sB : (lbS N t lim f F B M E nb).1 f.toNat = (if B f.toNat = t then lbB N f t else B f.toNat) ∧ ∀ g : Int, 0 ≤ g → g ≠ f → (lbS N t lim f F B M E nb).1 g.toNat = B g.toNat := by
      unfold lbS
      by_cases q : B f.toNat = t
      · rw [if_pos q, if_pos q]
        exact ⟨su_s, fun g q1 q2 => su_n (by omega)⟩
      · rw [if_neg q, if_neg q]
        exact ⟨rfl, fun _ _ _ => rfl⟩
    have sN : (lbS N t lim f F B M E nb).2.2.2 ≤ nb ∧ (lbS N t lim f F B M E nb).2.2.2 ≤ (lbS N t lim f F B M E nb).1 f.toNat ∧ ((lbS N t lim f F B M E nb).2.2.2 = nb ∨ (lbS N t lim f F B M E nb).2.2.2 = (lbS N t lim f F B M E nb).1 f.toNat) := by
      have mnp : ∀ a b : Int, mn a b ≤ a ∧ mn a b ≤ b ∧ (mn a b = a ∨ mn a b = b) := by
        intro a b
        show (if b < a then b else a) ≤ a ∧ (if b < a then b else a) ≤ b ∧ ((if b < a then b else a) = a ∨ (if b < a then b else a) = b)
        split <;> omega
      rw [sB.1]
      unfold lbS
      by_cases q : B f.toNat = t
      · rw [if_pos q, if_pos q]; exact mnp _ _
      · rw [if_neg q, if_neg q]; exact mnp _ _
    have sM : (∀ j x v, 0 ≤ j → j < 8 → pd M E j x v → pd (lbS N t lim f F B M E nb).2.1 (lbS N t lim f F B M E nb).2.2.1 j x v) ∧
        (B f.toNat = t → t + (N (23 + f * 9 + 4).toNat) ≤ lim → pd (lbS N t lim f F B M E nb).2.1 (lbS N t lim f F B M E nb).2.2.1 (N (23 + f * 9 + 1).toNat) (t + (N (23 + f * 9 + 4).toNat)) (F (N (23 + f * 9 + 0).toNat).toNat + PR N f t)) ∧
        (∀ c : Int → Int → Int, (B f.toNat = t → t + (N (23 + f * 9 + 4).toNat) ≤ lim → c (N (23 + f * 9 + 1).toNat) (t + (N (23 + f * 9 + 4).toNat)) ≤ F (N (23 + f * 9 + 0).toNat).toNat + PR N f t) → lbp c (t + 1) (t + 100) lim M E → lbp c (t + 1) (t + 100) lim (lbS N t lim f F B M E nb).2.1 (lbS N t lim f F B M E nb).2.2.1) := by
      unfold lbS
      by_cases q : B f.toNat = t
      · rw [if_pos q]
        unfold lbE
        by_cases q2 : t + (N (23 + f * 9 + 4).toNat) ≤ lim
        · rw [if_pos q2]
          exact ⟨fun j x v a b h => exU_mon h4 w2.2 ⟨a, b⟩ h, fun _ _ => exU_pd h4 w2.2, fun c h a => exU_lbp h4 w2.2 (by omega) (by omega) (h q q2) a⟩
        · rw [if_neg q2]
          exact ⟨fun j x v _ _ h => h, fun _ q3 => absurd q3 q2, fun c _ h => h⟩
      · rw [if_neg q]
        exact ⟨fun j x v _ _ h => h, fun q3 => absurd q3 q, fun c _ h => h⟩
    unfold lbIn
    refine ⟨fun g h6 => ?_, ⟨by omega, fun g h6 h7 => ?_, fun lo h => ?_⟩, fun j x v a b h => k5 j x v a b (sM.1 j x v a b h), fun g h6 h7 h8 h9 => ?_, fun c h a => ?_⟩
    · have h7 := k1 g h6
      by_cases h8 : g = f
      · subst h8
        rw [h7.2 (by omega), sB.1]
        exact ⟨fun q => if_pos q.2, fun q => if_neg (fun r => q ⟨by omega, r⟩)⟩
      · rw [sB.2 g h6 h8] at h7
        exact ⟨fun q => h7.1 ⟨by omega, q.2⟩, fun q => h7.2 (fun r => q ⟨by omega, r.2⟩)⟩
    · by_cases h8 : g = f
      · subst h8
        rw [(k1 g (by omega)).2 (by omega)]
        omega
      · exact k3 g (by omega) h7
    · refine k4 lo ⟨?_, fun g h6 h7 => h.2 g (by omega) h7⟩
      have h8 := h.2 f (by omega) (by omega)
      rw [(k1 f h2).2 (by omega)] at h8
      omega
    · by_cases h10 : g = f
      · subst h10
        exact k5 _ _ _ w2.2.1 w2.2.2 (sM.2.1 h8 h9)
      · exact k6 g (by omega) h7 (by rw [sB.2 g (by omega) h10]; exact h8) h9
    · refine k7 c (fun g h6 h7 h8 h9 => ?_) (sM.2.2 c (fun h8 h9 => h f (by omega) (by omega) h8 h9) a)
      rw [sB.2 g (by omega) (by omega)] at h8
      exact h g (by omega) h7 h8 h9
end EQF
