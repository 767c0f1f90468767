noncomputable section EQG
def kd (F K E : Nat → Int) (lo i x v : Int) : Prop := (F i.toNat ≠ -1 ∧ F i.toNat ≤ v) ∨ ∃ y, lo ≤ y ∧ y ≤ x ∧ y ≤ lo + 98 ∧ pd K E i y v
theorem kd_v {F K E : Nat → Int} {lo i x v w : Int} (h : kd F K E lo i x v) (hv : v ≤ w) : kd F K E lo i x w := by
  rcases h with ⟨a, b⟩ | ⟨y, a, b, b2, c, d⟩
  · exact Or.inl ⟨a, by omega⟩
  · exact Or.inr ⟨y, a, b, b2, c, by omega⟩
def fuP (c : Int → Int → Int) (F : Nat → Int) (t : Int) : Prop := ∀ i, 0 ≤ i → i < 8 → (F i.toNat ≠ -1 → c i t ≤ F i.toNat) ∧ (c i t ≠ 1000000 → F i.toNat ≠ -1 ∧ F i.toNat ≤ c i t)
def dP (N : Nat → Int) (c : Int → Int → Int) (m lim lo T : Int) (F K E : Nat → Int) : Prop := ∀ f u, 0 ≤ f → f < N 0 → m ≤ u → u < T → lvA N f u → c (N (23 + f * 9 + 0).toNat) u ≠ 1000000 → lo ≤ u + (N (23 + f * 9 + 4).toNat) → u + (N (23 + f * 9 + 4).toNat) ≤ lim → kd F K E lo (N (23 + f * 9 + 1).toNat) (u + (N (23 + f * 9 + 4).toNat)) (c (N (23 + f * 9 + 0).toNat) u + PR N f u)
def bP (N : Nat → Int) (lim fr lo : Int) (F B K E : Nat → Int) : Prop := ∀ f, 0 ≤ f → f < N 0 → (B f.toNat = 1540 ∨ (F (N (23 + f * 9 + 0).toNat).toNat ≠ -1 ∧ lvA N f (B f.toNat))) ∧ (F (N (23 + f * 9 + 0).toNat).toNat ≠ -1 → ∀ u, fr ≤ u → u < B f.toNat → lvA N f u → u + (N (23 + f * 9 + 4).toNat) ≤ lim → kd F K E lo (N (23 + f * 9 + 1).toNat) (u + (N (23 + f * 9 + 4).toNat)) (F (N (23 + f * 9 + 0).toNat).toNat + PR N f u))
def nP (N : Nat → Int) (t : Int) (B : Nat → Int) (nb : Int) : Prop := t ≤ nb ∧ ∀ g, 0 ≤ g → g < N 0 → nb ≤ B g.toNat
def i0P (N : Nat → Int) (c : Int → Int → Int) (m lim t : Int) (F B K E : Nat → Int) (nb : Int) : Prop := fuP c F (t - 1) ∧ lbp c t (t + 99) lim K E ∧ dP N c m lim t t F K E ∧ bP N lim t t F B K E ∧ nP N t B nb ∧ okFF (F, B, K, E, nb) (200 * t)
def i1P (N : Nat → Int) (c : Int → Int → Int) (m lim t : Int) (F B K E : Nat → Int) (nb : Int) : Prop := fuP c F t ∧ lbp c (t + 1) (t + 100) lim K E ∧ dP N c m lim (t + 1) t F K E ∧ bP N lim t (t + 1) F B K E ∧ nP N t B nb ∧ okFF (F, B, K, E, nb) (200 * t)
/-- those who come at t -/
theorem stepC {N : Nat → Int} (h : RG N) {c : Int → Int → Int} {i0 m lim t : Int} (hc : tblC N i0 m c) (hm : 0 ≤ m) (hmt : m < t) (htl : t ≤ lim) (hl : lim ≤ 1539) {F B K E : Nat → Int} {nb : Int} (hI : i0P N c m lim t F B K E nb) :
    i1P N c m lim t (ffC N t F B K E nb).1 (ffC N t F B K E nb).2.1 (ffC N t F B K E nb).2.2.1 (ffC N t F B K E nb).2.2.2.1 (ffC N t F B K E nb).2.2.2.2 := by
  obtain ⟨hf, hlb, hd, hb, hn, hk⟩ := hI
  obtain ⟨c0, c1, c2, c3, c4⟩ := hc
  have hW := h.2.1
  have hkC := ffC_ok hW (t := t) (by omega) hk
  have hsrc : ∀ g : Int, 0 ≤ g → g < N 0 → 0 ≤ (N (23 + g * 9 + 0).toNat) ∧ (N (23 + g * 9 + 0).toNat) < 8 := fun g a b => (hW.2.2 g a b).2.1
  have hNL : ∀ g : Int, 0 ≤ g → g < N 0 → t ≤ oNv (NL N g t) := fun g a b => (oNv_P h a b (t := t) (by omega)).2.1
  -- what happens to rows
  have facts : (∀ j, 0 ≤ j → j < 8 → (chg K E F t j → (ffC N t F B K E nb).1 j.toNat = E (t % 100 * 8 + j).toNat) ∧ (¬ chg K E F t j → (ffC N t F B K E nb).1 j.toNat = F j.toNat)) ∧
      (∀ g, 0 ≤ g → g < N 0 → (chg K E F t (N (23 + g * 9 + 0).toNat) → (ffC N t F B K E nb).2.1 g.toNat = oNv (NL N g t)) ∧ (¬ chg K E F t (N (23 + g * 9 + 0).toNat) → (ffC N t F B K E nb).2.1 g.toNat = B g.toNat)) ∧
      nP N t (ffC N t F B K E nb).2.1 (ffC N t F B K E nb).2.2.2.2 ∧
      (∀ y j, bitT ((ffC N t F B K E nb).2.2.1 (y % 100).toNat) j = true ↔ (y % 100 ≠ t % 100 ∧ bitT (K (y % 100).toNat) j = true)) ∧ (ffC N t F B K E nb).2.2.2.1 = E := by
    unfold ffC
    by_cases hz : K (t % 100).toNat = 0
    · rw [if_pos hz]
      have no : ∀ j, ¬ chg K E F t j := fun j q => by have := q.1; rw [hz, bitT_0] at this; cases this
      refine ⟨fun j _ _ => ⟨fun q => absurd q (no j), fun _ => rfl⟩, fun g _ _ => ⟨fun q => absurd q (no _), fun _ => rfl⟩, hn, fun y j => ⟨fun q => ⟨fun e => ?_, q⟩, fun q => q.2⟩, rfl⟩
      dsimp only at q
      rw [e, hz, bitT_0] at q
      cases q
    · rw [if_neg hz]
      obtain ⟨k1, k2, k3⟩ := lcIn_at (t := t) (M := K) (E := E) hW.1.1 hsrc hNL 8 0 F B nb (by omega) (by omega)
      refine ⟨fun j a b => ⟨fun q => (k1 j a b).1 ⟨a, q⟩, fun q => (k1 j a b).2 (fun r => q r.2)⟩, fun g a b => ⟨fun q => (k2 g a b).1 ⟨(hsrc g a b).1, q⟩, fun q => (k2 g a b).2 (fun r => q r.2)⟩, k3 hn, fun y j => ?_, rfl⟩
      dsimp only
      by_cases e : y % 100 = t % 100
      · rw [e, su_s, bitT_0]
        exact ⟨fun q => absurd q (by decide), fun q => absurd rfl q.1⟩
      · rw [su_n (show (y % 100).toNat ≠ (t % 100).toNat by omega)]
        exact ⟨fun q => ⟨e, q⟩, fun q => q.2⟩
  generalize ffC N t F B K E nb = s at hkC facts ⊢
  obtain ⟨F', B', K', E', nb'⟩ := s
  obtain ⟨k1, k2, k3, k4, k5⟩ := facts
  dsimp only at k1 k2 k3 k4 k5 ⊢
  subst k5
  have e0 : ∀ j, 0 ≤ j → j < 8 → chg K E' F t j → 0 ≤ E' (t % 100 * 8 + j).toNat ∧ c j t ≤ E' (t % 100 * 8 + j).toNat := by
    intro j a b q
    have h1 := hlb j t a b (Int.le_refl _) (by omega) q.1
    have h2 := c4 j t a b (by omega) (by omega)
    omega
  have mon : ∀ j x v, 0 ≤ j → j < 8 → kd F K E' t j x v → kd F' K' E' (t + 1) j x v := by
    intro j x v a b q
    have k1j := k1 j a b
    rcases q with ⟨q1, q2⟩ | ⟨y, q1, q2, q3, q4, q5⟩
    · left
      by_cases q6 : chg K E' F t j
      · rw [k1j.1 q6]
        have h1 := e0 j a b q6
        have h2 : ¬ F j.toNat ≤ E' (t % 100 * 8 + j).toNat := fun r => q6.2 ⟨q1, r⟩
        omega
      · rw [k1j.2 q6]
        exact ⟨q1, q2⟩
    · by_cases q6 : y = t
      · subst q6
        left
        by_cases q7 : chg K E' F y j
        · rw [k1j.1 q7]
          have h1 := e0 j a b q7
          omega
        · rw [k1j.2 q7]
          have h2 : F j.toNat ≠ -1 ∧ F j.toNat ≤ E' (y % 100 * 8 + j).toNat := Classical.byContradiction fun r => q7 ⟨q4, r⟩
          omega
      · exact Or.inr ⟨y, by omega, q2, by omega, (k4 y j).mpr ⟨by omega, q4⟩, q5⟩
  have ended : ∀ j v, 0 ≤ j → j < 8 → kd F K E' t j t v → F' j.toNat ≠ -1 ∧ F' j.toNat ≤ v := by
    intro j v a b q
    rcases mon j t v a b q with r | ⟨y, r1, r2, -⟩
    · exact r
    · omega
  refine ⟨fun i a b => ⟨fun q => ?_, fun q => ?_⟩, fun j x a b q1 q2 q3 => ?_, fun f u a b q1 q2 q3 q4 q5 q6 => ?_, fun f a b => ?_, k3, hkC⟩
  · by_cases q6 : chg K E' F t i
    · rw [(k1 i a b).1 q6]
      exact (e0 i a b q6).2
    · rw [(k1 i a b).2 q6] at q ⊢
      have h1 := (hf i a b).1 q
      have h2 := c1 i t a b hmt (by omega)
      omega
  · rcases c3 i t a b hmt (by omega) with e | ⟨f, u, g0, g1, g2, g3, g4, g5, g6, g7⟩
    · rw [e] at q
      have h1 := (hf i a b).2 q
      rw [e]
      exact ended i _ a b (Or.inl h1)
    · have hn4 := (hW.2.2 f g0 g1).1.2.2.1
      have h1 := hd f u g0 g1 g3 (by omega) g5 g6 (by omega) (by omega)
      rw [g2, g4, ← g7] at h1
      exact ended i _ a b h1
  · have q4 := (k4 x j).mp q3
    exact hlb j x a b (by omega) (by omega) q4.2
  · have hi := (hW.2.2 f a b).2.2
    exact mon _ _ _ hi.1 hi.2 (hd f u a b q1 q2 q3 q4 (by omega) q6)
  · have hs := hsrc f a b
    have hi := (hW.2.2 f a b).2.2
    have hbf := hb f a b
    by_cases q6 : chg K E' F t (N (23 + f * 9 + 0).toNat)
    · have h1 := oNv_P h a b (t := t) (by omega)
      have h2 := e0 _ hs.1 hs.2 q6
      rw [(k2 f a b).1 q6, (k1 _ hs.1 hs.2).1 q6]
      refine ⟨?_, fun _ u q1 q2 q3 _ => absurd q2 (h1.2.2 u q1 q3)⟩
      rcases h1.1 with q | q
      · exact Or.inl q
      · exact Or.inr ⟨by omega, q⟩
    · rw [(k2 f a b).2 q6, (k1 _ hs.1 hs.2).2 q6]
      exact ⟨hbf.1, fun q u q1 q2 q3 q4 => mon _ _ _ hi.1 hi.2 (hbf.2 q u q1 q2 q3 q4)⟩
/-- those who board at t -/
theorem stepB {N : Nat → Int} (h : RG N) {c : Int → Int → Int} {i0 m lim t : Int} (hc : tblC N i0 m c) (hm : 0 ≤ m) (hmt : m ≤ t) (htl : t ≤ lim) (hl : lim ≤ 1539) {F B K E : Nat → Int} {nb : Int} (hI : i1P N c m lim t F B K E nb) :
    i0P N c m lim (t + 1) (ffB N t lim (F, B, K, E, nb)).1 (ffB N t lim (F, B, K, E, nb)).2.1 (ffB N t lim (F, B, K, E, nb)).2.2.1 (ffB N t lim (F, B, K, E, nb)).2.2.2.1 (ffB N t lim (F, B, K, E, nb)).2.2.2.2 := by
  obtain ⟨hf, hlb, hd, hb, hn, hk⟩ := hI
  obtain ⟨c0, c1, c2, c3, c4⟩ := hc
  have hW := h.2.1
  have hkB := ffB_ok hW (t := t) (lim := lim) (by omega) (by omega) hk
  obtain ⟨o1, o2, o3, o4, o5⟩ := hk
  dsimp only at o1 o2 o3 o4 o5
  have hFb : ∀ g : Int, 0 ≤ g → g < N 0 → F (N (23 + g * 9 + 0).toNat).toNat ≤ 400000 := fun g a b => by
    have := (hW.2.2 g a b).2.1
    have := o1 (N (23 + g * 9 + 0).toNat).toNat (by omega)
    omega
  -- who boards now is on the island, and the ferry leaves
  have bd : ∀ g : Int, 0 ≤ g → g < N 0 → B g.toNat = t → F (N (23 + g * 9 + 0).toNat).toNat ≠ -1 ∧ lvA N g t ∧ c (N (23 + g * 9 + 0).toNat) t ≠ 1000000 ∧ c (N (23 + g * 9 + 0).toNat) t ≤ F (N (23 + g * 9 + 0).toNat).toNat := by
    intro g a b q
    have hs := (hW.2.2 g a b).2.1
    have h1 := (hb g a b).1
    rw [q] at h1
    rcases h1 with r | ⟨r1, r2⟩
    · omega
    · have h2 := (hf _ hs.1 hs.2).1 r1
      have h3 := hFb g a b
      exact ⟨r1, r2, by omega, h2⟩
  have facts : (∀ g, 0 ≤ g → g < N 0 → (B g.toNat = t → (ffB N t lim (F, B, K, E, nb)).2.1 g.toNat = lbB N g t) ∧ (¬ B g.toNat = t → (ffB N t lim (F, B, K, E, nb)).2.1 g.toNat = B g.toNat)) ∧
      nP N (t + 1) (ffB N t lim (F, B, K, E, nb)).2.1 (ffB N t lim (F, B, K, E, nb)).2.2.2.2 ∧
      (∀ j x v, 0 ≤ j → j < 8 → pd K E j x v → pd (ffB N t lim (F, B, K, E, nb)).2.2.1 (ffB N t lim (F, B, K, E, nb)).2.2.2.1 j x v) ∧
      (∀ g, 0 ≤ g → g < N 0 → B g.toNat = t → t + (N (23 + g * 9 + 4).toNat) ≤ lim → pd (ffB N t lim (F, B, K, E, nb)).2.2.1 (ffB N t lim (F, B, K, E, nb)).2.2.2.1 (N (23 + g * 9 + 1).toNat) (t + (N (23 + g * 9 + 4).toNat)) (F (N (23 + g * 9 + 0).toNat).toNat + PR N g t)) ∧
      lbp c (t + 1) (t + 100) lim (ffB N t lim (F, B, K, E, nb)).2.2.1 (ffB N t lim (F, B, K, E, nb)).2.2.2.1 ∧ (ffB N t lim (F, B, K, E, nb)).1 = F := by
    unfold ffB
    by_cases hz : nb = t
    · rw [if_pos hz]
      obtain ⟨k1, ⟨k2, k3, k4⟩, k5, k6, k7⟩ := lbIn_at (t := t) (lim := lim) (F := F) hW (by omega) (okFa_le o1 (by omega)) (N 0).toNat 0 B K E 1540 (by have := hW.1; omega) (by omega) ⟨o2.1, by omega⟩ o3 o4
      dsimp only
      refine ⟨fun g a b => ⟨fun q => (k1 g a).1 ⟨⟨a, b⟩, q⟩, fun q => (k1 g a).2 (fun r => q r.2)⟩, ⟨k4 (t + 1) ⟨by omega, fun g a b => ?_⟩, k3⟩, k5, k6, k7 c (fun g a b q1 q2 => ?_) hlb, rfl⟩
      · by_cases q : B g.toNat = t
        · rw [(k1 g a).1 ⟨⟨a, b⟩, q⟩]
          exact (lbB_P h a b (t := t) (by omega)).2.1
        · rw [(k1 g a).2 (fun r => q r.2)]
          have := hn.2 g a b
          omega
      · obtain ⟨b1, b2, b3, b4⟩ := bd g a b q1
        have := c2 g t a b hmt b2 b3
        omega
    · rw [if_neg hz]
      have hn1 := hn.1
      have no : ∀ g, 0 ≤ g → g < N 0 → ¬ B g.toNat = t := fun g a b q => by have := hn.2 g a b; omega
      exact ⟨fun g a b => ⟨fun q => absurd q (no g a b), fun _ => rfl⟩, ⟨by dsimp only; omega, hn.2⟩, fun j x v _ _ q => q, fun g a b q => absurd q (no g a b), hlb, rfl⟩
  generalize ffB N t lim (F, B, K, E, nb) = s at hkB facts ⊢
  obtain ⟨F', B', K', E', nb'⟩ := s
  obtain ⟨k1, k2, k3, k4, k5, k6⟩ := facts
  dsimp only at k1 k2 k3 k4 k5 k6 ⊢
  subst k6
  have mon : ∀ j x v, 0 ≤ j → j < 8 → kd F' K E (t + 1) j x v → kd F' K' E' (t + 1) j x v := by
    intro j x v a b q
    rcases q with q | ⟨y, q1, q2, q3, q4⟩
    · exact Or.inl q
    · exact Or.inr ⟨y, q1, q2, q3, k3 j y v a b q4⟩
  have e1 : t + 1 - 1 = t := by omega
  refine ⟨by rw [e1]; exact hf, by rw [show t + 1 + 99 = t + 100 by omega]; exact k5, fun f u a b q1 q2 q3 q4 q5 q6 => ?_, fun f a b => ?_, k2, by rw [show 200 * (t + 1) = 200 * t + 200 by omega]; exact hkB⟩
  · have hi := (hW.2.2 f a b).2.2
    have hs := (hW.2.2 f a b).2.1
    have hn4 := (hW.2.2 f a b).1.2.2.1
    by_cases q7 : u = t
    · subst q7
      have h1 := (hf _ hs.1 hs.2).2 q4
      by_cases q8 : B f.toNat = u
      · have h2 := k4 f a b q8 q6
        exact kd_v (Or.inr ⟨_, q5, Int.le_refl _, by omega, h2⟩) (show F' (N (23 + f * 9 + 0).toNat).toNat + PR N f u ≤ _ by omega)
      · have h2 := hn.2 f a b
        have h3 := hn.1
        exact kd_v (mon _ _ _ hi.1 hi.2 ((hb f a b).2 h1.1 u (Int.le_refl _) (by omega) q3 q6)) (by omega)
    · exact mon _ _ _ hi.1 hi.2 (hd f u a b q1 (by omega) q3 q4 q5 q6)
  · have hi := (hW.2.2 f a b).2.2
    have hn4 := (hW.2.2 f a b).1.2.2.1
    by_cases q8 : B f.toNat = t
    · obtain ⟨b1, b2, b3, b4⟩ := bd f a b q8
      have h1 := lbB_P h a b (t := t) (by omega)
      rw [(k1 f a b).1 q8]
      refine ⟨?_, fun _ u r1 r2 r3 r4 => ?_⟩
      · rcases h1.1 with r | r
        · exact Or.inl r
        · exact Or.inr ⟨b1, r⟩
      · have h2 := h1.2.2 u r1 r3 r2
        have h3 := k4 f a b q8 (by omega)
        exact kd_v (Or.inr ⟨_, by omega, by omega, by omega, h3⟩) (show F' (N (23 + f * 9 + 0).toNat).toNat + PR N f t ≤ _ by omega)
    · rw [(k1 f a b).2 q8]
      exact ⟨(hb f a b).1, fun r u r1 r2 r3 r4 => mon _ _ _ hi.1 hi.2 ((hb f a b).2 r u (by omega) r2 r3 r4)⟩
theorem ffI_fu {N : Nat → Int} (h : RG N) {c : Int → Int → Int} {i0 m lim : Int} (hc : tblC N i0 m c) (hm : 0 ≤ m) (hl : lim ≤ 1539) : ∀ (n : Nat) (t : Int) (s : tFF), t + n = lim + 1 → m < t → i0P N c m lim t s.1 s.2.1 s.2.2.1 s.2.2.2.1 s.2.2.2.2 → fuP c (ffI N lim n t s).1 lim := by
  intro n
  induction n with
  | zero =>
    intro t s h1 h2 h3
    have e : t - 1 = lim := by omega
    have h4 := h3.1
    rw [e] at h4
    exact h4
  | succ n ih =>
    intro t s h1 h2 h3
    obtain ⟨F, B, K, E, nb⟩ := s
    unfold ffI
    have h4 := stepC h hc hm h2 (by omega) hl h3
    exact ih (t + 1) _ (by omega) (by omega) (stepB h hc hm (by omega) (by omega) hl h4)
theorem fFar_c {N : Nat → Int} (h : RG N) {c : Int → Int → Int} {i m lim : Int} (hc : tblC N i m c) (hi : 0 ≤ i ∧ i < 8) (hm : 0 ≤ m) (hml : m ≤ lim) (hl : lim ≤ 1539) {F B K E : Nat → Int} (hK : okM K) (hE : okE E) (hz : ∀ k : Nat, k < 100 → K k = 0) {j : Int} (hj : 0 ≤ j ∧ j < 8) : (fFar N i m lim F B K E).1 j.toNat = unB (c j lim) := by
  have hW := h.2.1
  have hN := hW.1
  have hb0 : ∀ y j : Int, bitT (K (y % 100).toNat) j = false := fun y j => by rw [hz _ (by omega)]; exact bitT_0
  have hfu : fuP c (fFar N i m lim F B K E).1 lim := by
    unfold fFar
    have hP : okP K E 0 := by
      intro s i' g1 g2 g3 g4 g5
      rw [hz s.toNat (by omega)] at g5
      exact absurd bitT_0 g5
    have hk0 := cT_ok hW (i := i) (m := m) (c := 0) (x := 0) (F := fillN 8 (-1) F) (B := fillN 14 1540 B) (nb := 1540) (fun k hk => by show -1 ≤ (if k < 8 then -1 else F k) ∧ (if k < 8 then -1 else F k) ≤ 0; rw [if_pos hk]; omega) ⟨fun k hk => by show 0 ≤ (if k < 14 then 1540 else B k) ∧ (if k < 14 then 1540 else B k) ≤ 1540; rw [if_pos hk]; omega, by omega⟩ (by omega)
    have e0 : cT N i m 0 (fillN 8 (-1) F) (fillN 14 1540 B) 1540 = (su (fillN 8 (-1) F) i.toNat 0, ctIn N i m (N 0).toNat 0 (fillN 14 1540 B) 1540) := by
      unfold cT
      exact if_neg (fun q => q.1 (if_pos (show i.toNat < 8 by omega)))
    dsimp only
    rw [e0] at hk0 ⊢
    dsimp only at hk0 ⊢
    have ca := fun g (q1 : 0 ≤ g) => ctIn_at N i m (N 0).toNat 0 (fillN 14 1540 B) 1540 g (Int.le_refl 0) q1
    have cn := ctIn_nb N i m (N 0).toNat 0 (fillN 14 1540 B) 1540
    have b14 : ∀ g : Int, 0 ≤ g → g < N 0 → fillN 14 1540 B g.toNat = 1540 := fun g a b => if_pos (show g.toNat < 14 by omega)
    have f8 : ∀ g : Int, 0 ≤ g → g < 8 → fillN 8 (-1) F g.toNat = -1 := fun g a b => if_pos (show g.toNat < 8 by omega)
    have hI : i1P N c m lim m (su (fillN 8 (-1) F) i.toNat 0) (ctIn N i m (N 0).toNat 0 (fillN 14 1540 B) 1540).1 K E (ctIn N i m (N 0).toNat 0 (fillN 14 1540 B) 1540).2 := by
      refine ⟨fun k a b => ?_, fun k x a b _ _ q => ?_, fun f u _ _ q1 q2 => by omega, fun f a b => ?_, ⟨?_, fun g a b => ?_⟩, ⟨okFa_le hk0.1 (by omega), hk0.2, hK, hE, fun s i' g1 g2 g3 g4 g5 => ?_⟩⟩
      · rw [hc.1 k a b]
        by_cases q : k = i
        · rw [if_pos q, q, su_s]
          exact ⟨fun _ => Int.le_refl _, fun _ => ⟨by omega, Int.le_refl _⟩⟩
        · rw [if_neg q, su_n (show k.toNat ≠ i.toNat by omega), f8 k a b]
          exact ⟨fun r => absurd rfl r, fun r => absurd rfl r⟩
      · rw [hb0] at q
        cases q
      · have hs := (hW.2.2 f a b).2.1
        by_cases q : (N (23 + f * 9 + 0).toNat) = i
        · have h1 := oNv_P h a b (t := m) (by omega)
          rw [(ca f a).1 ⟨by omega, q⟩, q, su_s]
          refine ⟨?_, fun _ u q1 q2 q3 _ => absurd q2 (h1.2.2 u q1 q3)⟩
          rcases h1.1 with r | r
          · exact Or.inl r
          · exact Or.inr ⟨by omega, r⟩
        · rw [(ca f a).2 (fun r => q r.2), b14 f a b, su_n (show (N (23 + f * 9 + 0).toNat).toNat ≠ i.toNat by omega), f8 _ hs.1 hs.2]
          exact ⟨Or.inl rfl, fun r => absurd rfl r⟩
      · exact cn.2.2 ⟨by omega, fun g q1 q2 _ => (oNv_P h q1 (by omega) (t := m) (by omega)).2.1⟩
      · by_cases q : (N (23 + g * 9 + 0).toNat) = i
        · rw [(ca g a).1 ⟨by omega, q⟩]
          exact cn.2.1 g a (by omega) q
        · rw [(ca g a).2 (fun r => q r.2), b14 g a b]
          exact cn.1
      · have q := hP s i' g1 g2 g3 g4 g5
        exact ⟨q.1, Int.le_trans q.2 (by omega)⟩
    generalize su (fillN 8 (-1) F) i.toNat 0 = F0 at hI ⊢
    generalize ctIn N i m (N 0).toNat 0 (fillN 14 1540 B) 1540 = bb at hI ⊢
    obtain ⟨B0, nb0⟩ := bb
    dsimp only at hI ⊢
    rw [show (lim - m + 1).toNat = (lim - m).toNat + 1 by omega]
    unfold ffI
    have e1 : ffC N m F0 B0 K E nb0 = (F0, B0, K, E, nb0) := by
      unfold ffC
      exact if_pos (hz _ (by omega))
    dsimp only
    rw [e1]
    exact ffI_fu h hc hm hl (lim - m).toNat (m + 1) _ (by omega) (by omega) (stepB h hc hm (Int.le_refl _) hml hl hI)
  have hb := (fFar_ok hW (i := i) (m := m) (lim := lim) (F := F) (B := B) (M := K) (E := E) (by omega) (by omega) hK hE hz).1.1 j.toNat (by omega)
  have h1 := hfu j hj.1 hj.2
  have h2 := hc.2.2.2.2 j lim hj.1 hj.2 hml hl
  unfold unB
  by_cases h3 : c j lim = 1000000
  · rw [if_pos h3]
    refine Classical.byContradiction fun q => ?_
    have := h1.1 q
    omega
  · rw [if_neg h3]
    have h4 := h1.2 h3
    have := h1.1 h4.1
    omega
end EQG
