noncomputable section EQS
/-! every change keeps the rows telling the same -/
theorem RG_suF {N M : Nat → Int} (h : RG N M) {f k v : Int} (hf : 0 ≤ f ∧ f < N 0) (hk : 6 ≤ k ∧ k < 9) (hv : (k = 6 → 0 ≤ v ∧ v ≤ 2) ∧ (k = 7 → 0 ≤ v ∧ v ≤ 59)) : RG (su N (23 + f * 9 + k).toNat v) (su M (3 + 9 * f + k).toNat v) := by
  obtain ⟨⟨e0, e1, e2, e3, e4⟩, ⟨w0, w1, w2⟩, t4⟩ := h
  have lo : ∀ j : Nat, j < 29 → su N (23 + f * 9 + k).toNat v j = N j := fun j hj => su_n (by omega)
  have lm : ∀ j : Nat, j < 9 → su M (3 + 9 * f + k).toNat v j = M j := fun j hj => su_n (by omega)
  have fy : ∀ g j : Int, 0 ≤ g → 0 ≤ j → j < 9 → (g = f ∧ j = k ∧ ((su N (23 + f * 9 + k).toNat v) (23 + g * 9 + j).toNat) = v) ∨ (¬ (g = f ∧ j = k) ∧ ((su N (23 + f * 9 + k).toNat v) (23 + g * 9 + j).toNat) = (N (23 + g * 9 + j).toNat)) := by
    intro g j a b c
    by_cases q : g = f ∧ j = k
    · obtain ⟨rfl, rfl⟩ := q
      exact Or.inl ⟨rfl, rfl, su_s⟩
    · exact Or.inr ⟨q, su_n (by omega)⟩
  have tv : ∀ t j : Int, 0 ≤ t → t < 4 → 0 ≤ j → j < 5 → ((su N (23 + f * 9 + k).toNat v) (3 + t * 5 + j).toNat) = (N (3 + t * 5 + j).toNat) := fun t j a b c d => su_n (by omega)
  refine ⟨⟨by rw [lo 0 (by omega), lm 2 (by omega)]; exact e0, by rw [lo 1 (by omega), lm 0 (by omega)]; exact e1, by rw [lo 2 (by omega), lm 1 (by omega)]; exact e2, fun t j a b c d => ?_, fun g j a b c d => ?_⟩, ⟨by rw [lo 0 (by omega)]; exact w0, ?_, fun g a b => ?_⟩, fun t a b => ?_⟩
  · rw [tv t j a b c d, e3 t j a b c d]
    exact (su_n (by omega)).symm
  · rw [lo 0 (by omega)] at b
    rcases fy g j a c d with ⟨rfl, rfl, q⟩ | ⟨q1, q2⟩
    · rw [q, su_s]
    · rw [q2, e4 g j a b c d]
      exact (su_n (by omega)).symm
  · unfold okS at w1 ⊢
    rw [lo 1 (by omega), lo 2 (by omega)]
    exact w1
  · rw [lo 0 (by omega)] at b
    obtain ⟨k1, k2⟩ := w2 g a b
    have y := fun j (c : 0 ≤ j) (d : j < 6) => (fy g j a c (by omega)).elim (fun q => absurd q.2.1 (show j ≠ k by omega)) (fun q => q.2)
    unfold okF at k1 ⊢
    refine ⟨?_, ?_⟩
    · rw [y 2 (by omega) (by omega), y 3 (by omega) (by omega), y 4 (by omega) (by omega), y 5 (by omega) (by omega)]
      refine ⟨k1.1, k1.2.1, k1.2.2.1, k1.2.2.2.1, ?_, ?_⟩
      · rcases fy g 6 a (by omega) (by omega) with ⟨-, q1, q2⟩ | ⟨-, q⟩
        · rw [q2]; exact hv.1 q1.symm
        · rw [q]; exact k1.2.2.2.2.1
      · rcases fy g 7 a (by omega) (by omega) with ⟨-, q1, q2⟩ | ⟨-, q⟩
        · rw [q2]; exact hv.2 q1.symm
        · rw [q]; exact k1.2.2.2.2.2
    · unfold okI at k2 ⊢
      rw [y 0 (by omega) (by omega), y 1 (by omega) (by omega)]
      exact k2
  · have q := t4 t a b
    unfold okTr at q ⊢
    rw [tv t 0 a b (by omega) (by omega), tv t 1 a b (by omega) (by omega), tv t 2 a b (by omega) (by omega)]
    exact q
theorem RG_suT {N M : Nat → Int} (h : RG N M) {t k v : Int} (ht : 0 ≤ t ∧ t < 4) (hk : 0 ≤ k ∧ k < 5) (hv : (k = 0 → 0 ≤ v ∧ v < 8) ∧ (k = 1 → 0 ≤ v ∧ v ≤ 1539) ∧ (k = 2 → 0 ≤ v ∧ v ≤ 999)) : RG (su N (3 + t * 5 + k).toNat v) (su M (129 + 5 * t + k).toNat v) := by
  obtain ⟨⟨e0, e1, e2, e3, e4⟩, ⟨w0, w1, w2⟩, t4⟩ := h
  have lo : ∀ j : Nat, j < 3 → su N (3 + t * 5 + k).toNat v j = N j := fun j hj => su_n (by omega)
  have lm : ∀ j : Nat, j < 129 → su M (129 + 5 * t + k).toNat v j = M j := fun j hj => su_n (by omega)
  have fy : ∀ g j : Int, 0 ≤ g → 0 ≤ j → ((su N (3 + t * 5 + k).toNat v) (23 + g * 9 + j).toNat) = (N (23 + g * 9 + j).toNat) := fun g j a b => su_n (by omega)
  have tv : ∀ s j : Int, 0 ≤ s → s < 4 → 0 ≤ j → j < 5 → (s = t ∧ j = k ∧ ((su N (3 + t * 5 + k).toNat v) (3 + s * 5 + j).toNat) = v) ∨ (¬ (s = t ∧ j = k) ∧ ((su N (3 + t * 5 + k).toNat v) (3 + s * 5 + j).toNat) = (N (3 + s * 5 + j).toNat)) := by
    intro s j a b c d
    by_cases q : s = t ∧ j = k
    · obtain ⟨rfl, rfl⟩ := q
      exact Or.inl ⟨rfl, rfl, su_s⟩
    · exact Or.inr ⟨q, su_n (by omega)⟩
  refine ⟨⟨by rw [lo 0 (by omega), lm 2 (by omega)]; exact e0, by rw [lo 1 (by omega), lm 0 (by omega)]; exact e1, by rw [lo 2 (by omega), lm 1 (by omega)]; exact e2, fun s j a b c d => ?_, fun g j a b c d => ?_⟩, ⟨by rw [lo 0 (by omega)]; exact w0, ?_, fun g a b => ?_⟩, fun s a b => ?_⟩
  · rcases tv s j a b c d with ⟨rfl, rfl, q⟩ | ⟨q1, q2⟩
    · rw [q, su_s]
    · rw [q2, e3 s j a b c d]
      exact (su_n (by omega)).symm
  · rw [lo 0 (by omega)] at b
    rw [fy g j a c, e4 g j a b c d]
    exact (lm _ (by omega)).symm
  · unfold okS at w1 ⊢
    rw [lo 1 (by omega), lo 2 (by omega)]
    exact w1
  · rw [lo 0 (by omega)] at b
    obtain ⟨k1, k2⟩ := w2 g a b
    unfold okF at k1 ⊢
    unfold okI at k2 ⊢
    rw [fy g 0 a (by omega), fy g 1 a (by omega), fy g 2 a (by omega), fy g 3 a (by omega), fy g 4 a (by omega), fy g 5 a (by omega), fy g 6 a (by omega), fy g 7 a (by omega)]
    exact ⟨k1, k2⟩
  · have q := t4 s a b
    unfold okTr at q ⊢
    refine ⟨?_, ?_, ?_⟩
    · rcases tv s 0 a b (by omega) (by omega) with ⟨-, q1, q2⟩ | ⟨-, q2⟩
      · rw [q2]; exact hv.1 q1.symm
      · rw [q2]; exact q.1
    · rcases tv s 1 a b (by omega) (by omega) with ⟨-, q1, q2⟩ | ⟨-, q2⟩
      · rw [q2]; exact hv.2.1 q1.symm
      · rw [q2]; exact q.2.1
    · rcases tv s 2 a b (by omega) (by omega) with ⟨-, q1, q2⟩ | ⟨-, q2⟩
      · rw [q2]; exact hv.2.2 q1.symm
      · rw [q2]; exact q.2.2
/-- rows that agree where they are looked at -/
theorem RG_cong {N M N' M' : Nat → Int} (h : RG N M) (hN : ∀ j : Nat, j < 149 → N' j = N j) (hM : ∀ j : Nat, j < 149 → M' j = M j) : RG N' M' := by
  obtain ⟨⟨e0, e1, e2, e3, e4⟩, ⟨w0, w1, w2⟩, t4⟩ := h
  have a0 := hN 0 (by omega)
  have a1 := hN 1 (by omega)
  have a2 := hN 2 (by omega)
  refine ⟨⟨by rw [a0, hM 2 (by omega)]; exact e0, by rw [a1, hM 0 (by omega)]; exact e1, by rw [a2, hM 1 (by omega)]; exact e2, fun t j a b c d => ?_, fun g j a b c d => ?_⟩, ⟨by rw [a0]; exact w0, ?_, fun g a b => ?_⟩, fun t a b => ?_⟩
  · rw [hN _ (by omega), hM _ (by omega)]
    exact e3 t j a b c d
  · rw [a0] at b
    rw [hN _ (by omega), hM _ (by omega)]
    exact e4 g j a b c d
  · unfold okS at w1 ⊢
    rw [a1, a2]
    exact w1
  · rw [a0] at b
    obtain ⟨k1, k2⟩ := w2 g a b
    have y := fun j (c : 0 ≤ j) (d : j < 9) => hN (23 + g * 9 + j).toNat (by omega)
    unfold okF at k1 ⊢
    unfold okI at k2 ⊢
    rw [y 0 (by omega) (by omega), y 1 (by omega) (by omega), y 2 (by omega) (by omega), y 3 (by omega) (by omega), y 4 (by omega) (by omega), y 5 (by omega) (by omega), y 6 (by omega) (by omega), y 7 (by omega) (by omega)]
    exact ⟨k1, k2⟩
  · have q := t4 t a b
    unfold okTr at q ⊢
    rw [hN _ (by omega), hN _ (by omega), hN _ (by omega)]
    exact q
theorem RG_suS {N M : Nat → Int} (h : RG N M) {k v : Int} (hk : 0 ≤ k ∧ k < 2) (hv : (k = 0 → 0 ≤ v ∧ v ≤ 719) ∧ (k = 1 → 0 ≤ v ∧ v ≤ 60)) : RG (su N (1 + k).toNat v) (su M k.toNat v) := by
  obtain ⟨⟨e0, e1, e2, e3, e4⟩, ⟨w0, w1, w2⟩, t4⟩ := h
  have hi : ∀ j : Nat, 3 ≤ j → su N (1 + k).toNat v j = N j := fun j hj => su_n (by omega)
  have hm : ∀ j : Nat, 2 ≤ j → su M k.toNat v j = M j := fun j hj => su_n (by omega)
  have n0 : su N (1 + k).toNat v 0 = N 0 := su_n (by omega)
  have s01 : (su N (1 + k).toNat v 1 = su M k.toNat v 0 ∧ 0 ≤ su N (1 + k).toNat v 1 ∧ su N (1 + k).toNat v 1 ≤ 719) ∧ su N (1 + k).toNat v 2 = su M k.toNat v 1 ∧ 0 ≤ su N (1 + k).toNat v 2 ∧ su N (1 + k).toNat v 2 ≤ 60 := by
    unfold okS at w1
    rcases (show k = 0 ∨ k = 1 by omega) with rfl | rfl
    · have q1 : su N ((1 : Int) + 0).toNat v 1 = v := su_s
      have q2 : su M (0 : Int).toNat v 0 = v := su_s
      have q3 : su N ((1 : Int) + 0).toNat v 2 = N 2 := su_n (by decide)
      have q4 : su M (0 : Int).toNat v 1 = M 1 := su_n (by decide)
      rw [q1, q2, q3, q4]
      exact ⟨⟨rfl, hv.1 rfl⟩, e2, w1.2⟩
    · have q1 : su N ((1 : Int) + 1).toNat v 1 = N 1 := su_n (by decide)
      have q2 : su M (1 : Int).toNat v 0 = M 0 := su_n (by decide)
      have q3 : su N ((1 : Int) + 1).toNat v 2 = v := su_s
      have q4 : su M (1 : Int).toNat v 1 = v := su_s
      rw [q1, q2, q3, q4]
      exact ⟨⟨e1, w1.1⟩, rfl, hv.2 rfl⟩
  refine ⟨⟨by rw [n0, hm 2 (by omega)]; exact e0, s01.1.1, s01.2.1, fun t j a b c d => ?_, fun g j a b c d => ?_⟩, ⟨by rw [n0]; exact w0, ⟨s01.1.2, s01.2.2⟩, fun g a b => ?_⟩, fun t a b => ?_⟩
  · rw [hi _ (by omega), hm _ (by omega)]
    exact e3 t j a b c d
  · rw [n0] at b
    rw [hi _ (by omega), hm _ (by omega)]
    exact e4 g j a b c d
  · rw [n0] at b
    obtain ⟨k1, k2⟩ := w2 g a b
    have y := fun j (c : 0 ≤ j) => hi (23 + g * 9 + j).toNat (by omega)
    unfold okF at k1 ⊢
    unfold okI at k2 ⊢
    rw [y 0 (by omega), y 1 (by omega), y 2 (by omega), y 3 (by omega), y 4 (by omega), y 5 (by omega), y 6 (by omega), y 7 (by omega)]
    exact ⟨k1, k2⟩
  · have q := t4 t a b
    unfold okTr at q ⊢
    rw [hi _ (by omega), hi _ (by omega), hi _ (by omega)]
    exact q
/-- a row out of its parts -/
theorem RG_of {N M N' M' : Nat → Int} (h : RG N M) (hc : N' 0 = M' 2 ∧ 0 ≤ N' 0 ∧ N' 0 ≤ 14) (hs : (N' 1 = N 1 ∧ N' 2 = N 2) ∧ M' 0 = M 0 ∧ M' 1 = M 1) (ht : ∀ j : Nat, 3 ≤ j → j < 23 → N' j = N j ∧ M' (j + 126) = M (j + 126))
    (hf : ∀ g : Int, 0 ≤ g → g < N' 0 → (∀ j : Int, 0 ≤ j → j < 9 → (N' (23 + g * 9 + j).toNat) = (M' (3 + 9 * g + j).toNat)) ∧ okF N' g ∧ okI N' g) : RG N' M' := by
  obtain ⟨⟨e0, e1, e2, e3, e4⟩, ⟨w0, w1, w2⟩, t4⟩ := h
  refine ⟨⟨hc.1, by rw [hs.1.1, hs.2.1]; exact e1, by rw [hs.1.2, hs.2.2]; exact e2, fun t j a b c d => ?_, fun g j a b c d => (hf g a b).1 j c d⟩, ⟨hc.2, ?_, fun g a b => (hf g a b).2⟩, fun t a b => ?_⟩
  · have q := ht (3 + t * 5 + j).toNat (by omega) (by omega)
    rw [q.1, show (129 + 5 * t + j).toNat = (3 + t * 5 + j).toNat + 126 by omega, q.2, show (3 + t * 5 + j).toNat + 126 = (129 + 5 * t + j).toNat by omega]
    exact e3 t j a b c d
  · unfold okS at w1 ⊢
    rw [hs.1.1, hs.1.2]
    exact w1
  · have q := t4 t a b
    unfold okTr at q ⊢
    rw [(ht (3 + t * 5 + 0).toNat (by omega) (by omega)).1, (ht (3 + t * 5 + 1).toNat (by omega) (by omega)).1, (ht (3 + t * 5 + 2).toNat (by omega) (by omega)).1]
    exact q
theorem tellN_old (N : Nat → Int) (a b c d e f k : Int) (j : Nat) (h0 : 0 < j) (h : (j : Int) < 23 + N 0 * 9) : tellN N a b c d e f k j = N j := by
  unfold tellN
  rw [su_n (by omega), su_n (by omega), su_n (by omega), su_n (by omega), su_n (by omega), su_n (by omega), su_n (by omega), su_n (by omega), su_n (by omega), su_n (by omega)]
theorem layN_old (M : Nat → Int) (a b c d e f k : Int) (j : Nat) (h0 : j ≠ 2) (hM : 0 ≤ M 2) (h : (j : Int) < 3 + 9 * M 2 ∨ 3 + 9 * M 2 + 8 < (j : Int)) : layN M a b c d e f k j = M j := by
  unfold layN
  rw [su_n h0, su_n (by omega), su_n (by omega), su_n (by omega), su_n (by omega), su_n (by omega), su_n (by omega), su_n (by omega), su_n (by omega), su_n (by omega)]
def nine (a b c d e f k : Int) (j : Int) : Int := if j = 0 then a else if j = 1 then b else if j = 2 then c else if j = 3 then d else if j = 4 then e else if j = 5 then f else if j = 6 then k else 0
theorem tellN_new (N : Nat → Int) (a b c d e f k : Int) (hN : 0 ≤ N 0) (j : Int) (hj : 0 ≤ j ∧ j < 9) : tellN N a b c d e f k (23 + N 0 * 9 + j).toNat = nine a b c d e f k j := by
  unfold tellN nine
  rcases (show j = 0 ∨ j = 1 ∨ j = 2 ∨ j = 3 ∨ j = 4 ∨ j = 5 ∨ j = 6 ∨ j = 7 ∨ j = 8 by omega) with rfl | rfl | rfl | rfl | rfl | rfl | rfl | rfl | rfl
  · rw [su_n (by omega), su_n (by omega), su_n (by omega), su_n (by omega), su_n (by omega), su_n (by omega), su_n (by omega), su_n (by omega), su_n (by omega), su_s]; rfl
  · rw [su_n (by omega), su_n (by omega), su_n (by omega), su_n (by omega), su_n (by omega), su_n (by omega), su_n (by omega), su_n (by omega), su_s]; rfl
  · rw [su_n (by omega), su_n (by omega), su_n (by omega), su_n (by omega), su_n (by omega), su_n (by omega), su_n (by omega), su_s]; rfl
  · rw [su_n (by omega), su_n (by omega), su_n (by omega), su_n (by omega), su_n (by omega), su_n (by omega), su_s]; rfl
  · rw [su_n (by omega), su_n (by omega), su_n (by omega), su_n (by omega), su_n (by omega), su_s]; rfl
  · rw [su_n (by omega), su_n (by omega), su_n (by omega), su_n (by omega), su_s]; rfl
  · rw [su_n (by omega), su_n (by omega), su_n (by omega), su_s]; rfl
  · rw [su_n (by omega), su_n (by omega), su_s]; rfl
  · rw [su_n (by omega), su_s]; rfl
theorem layN_new (M : Nat → Int) (a b c d e f k : Int) (hM : 0 ≤ M 2) (j : Int) (hj : 0 ≤ j ∧ j < 9) : layN M a b c d e f k (3 + 9 * M 2 + j).toNat = nine a b c d e f k j := by
  unfold layN nine
  rcases (show j = 0 ∨ j = 1 ∨ j = 2 ∨ j = 3 ∨ j = 4 ∨ j = 5 ∨ j = 6 ∨ j = 7 ∨ j = 8 by omega) with rfl | rfl | rfl | rfl | rfl | rfl | rfl | rfl | rfl
  · rw [su_n (by omega), su_n (by omega), su_n (by omega), su_n (by omega), su_n (by omega), su_n (by omega), su_n (by omega), su_n (by omega), su_n (by omega), su_s]; rfl
  · rw [su_n (by omega), su_n (by omega), su_n (by omega), su_n (by omega), su_n (by omega), su_n (by omega), su_n (by omega), su_n (by omega), su_s]; rfl
  · rw [su_n (by omega), su_n (by omega), su_n (by omega), su_n (by omega), su_n (by omega), su_n (by omega), su_n (by omega), su_s]; rfl
  · rw [su_n (by omega), su_n (by omega), su_n (by omega), su_n (by omega), su_n (by omega), su_n (by omega), su_s]; rfl
  · rw [su_n (by omega), su_n (by omega), su_n (by omega), su_n (by omega), su_n (by omega), su_s]; rfl
  · rw [su_n (by omega), su_n (by omega), su_n (by omega), su_n (by omega), su_s]; rfl
  · rw [su_n (by omega), su_n (by omega), su_n (by omega), su_s]; rfl
  · rw [su_n (by omega), su_n (by omega), su_s]; rfl
  · rw [su_n (by omega), su_s]; rfl
theorem RG_tell {N M : Nat → Int} (h : RG N M) {a b c d e f k : Int} (hN : N 0 < 14) (ha : 0 ≤ a ∧ a ≤ 7) (hb : 0 ≤ b ∧ b ≤ 7) (hc : 0 ≤ c ∧ c ≤ 199) (hd : 1 ≤ d ∧ d ≤ 199) (he : 1 ≤ e ∧ e ≤ 99) (hf : 0 ≤ f ∧ f ≤ 99) (hk : 0 ≤ k ∧ k ≤ 2) : RG (tellN N a b c d e f k) (layN M a b c d e f k) := by
  have e0 := h.1.1
  have w0 := h.2.1.1
  have t0 := tellN_0 N a b c d e f k
  have l2 := layN_2 M a b c d e f k (by omega)
  refine RG_of h ⟨by rw [t0, l2]; omega, by omega, by omega⟩ ⟨⟨tellN_old _ _ _ _ _ _ _ _ 1 (by omega) (by omega), tellN_old _ _ _ _ _ _ _ _ 2 (by omega) (by omega)⟩, layN_old _ _ _ _ _ _ _ _ 0 (by omega) (by omega) (by omega), layN_old _ _ _ _ _ _ _ _ 1 (by omega) (by omega) (by omega)⟩ (fun j q1 q2 => ⟨tellN_old _ _ _ _ _ _ _ _ j (by omega) (by omega), layN_old _ _ _ _ _ _ _ _ _ (by omega) (by omega) (by omega)⟩) (fun g q1 q2 => ?_)
  rw [t0] at q2
  by_cases q : g = N 0
  · subst q
    have y := fun j a1 a2 => tellN_new N a b c d e f k w0.1 j ⟨a1, a2⟩
    refine ⟨fun j a1 a2 => ?_, ?_, ?_⟩
    · rw [y j a1 a2, e0]
      exact (layN_new M a b c d e f k (by omega) j ⟨a1, a2⟩).symm
    · unfold okF
      rw [y 2 (by omega) (by omega), y 3 (by omega) (by omega), y 4 (by omega) (by omega), y 5 (by omega) (by omega), y 6 (by omega) (by omega), y 7 (by omega) (by omega)]
      exact ⟨hc, hd, he, hf, hk, by show (0 : Int) ≤ 0 ∧ (0 : Int) ≤ 59; omega⟩
    · unfold okI
      rw [y 0 (by omega) (by omega), y 1 (by omega) (by omega)]
      show (0 ≤ a ∧ a < 8) ∧ 0 ≤ b ∧ b < 8
      omega
  · have y := fun j (a1 : 0 ≤ j) (a2 : j < 9) => tellN_old N a b c d e f k (23 + g * 9 + j).toNat (by omega) (by omega)
    obtain ⟨k1, k2⟩ := h.2.1.2.2 g q1 (by omega)
    refine ⟨fun j a1 a2 => ?_, ?_, ?_⟩
    · rw [y j a1 a2, layN_old M a b c d e f k (3 + 9 * g + j).toNat (by omega) (by omega) (by omega)]
      exact h.1.2.2.2.2 g j q1 (by omega) a1 a2
    · unfold okF at k1 ⊢
      rw [y 2 (by omega) (by omega), y 3 (by omega) (by omega), y 4 (by omega) (by omega), y 5 (by omega) (by omega), y 6 (by omega) (by omega), y 7 (by omega) (by omega)]
      exact k1
    · unfold okI at k2 ⊢
      rw [y 0 (by omega) (by omega), y 1 (by omega) (by omega)]
      exact k2
theorem forgetN_at (N : Nat → Int) (f : Int) (hf : 0 ≤ f ∧ f < N 0) (hN : N 0 ≤ 14) : forgetN N f 0 = N 0 - 1 ∧ (∀ j : Nat, 0 < j → j < 23 → forgetN N f j = N j) ∧ ∀ g j : Int, 0 ≤ g → g < N 0 - 1 → 0 ≤ j → j < 9 → (f ≤ g → ((forgetN N f) (23 + g * 9 + j).toNat) = (N (23 + (g + 1) * 9 + j).toNat)) ∧ (g < f → ((forgetN N f) (23 + g * 9 + j).toNat) = (N (23 + g * 9 + j).toNat)) := by
  unfold forgetN
  refine ⟨su_s, fun j h1 h2 => ?_, fun g j h1 h2 h3 h4 => ?_⟩
  · rw [su_n (by omega)]
    split
    · unfold va_cpy
      exact if_neg (by omega)
    · rfl
  · rw [su_n (by omega)]
    by_cases q : f < N 0 - 1
    · rw [if_pos q]
      unfold va_cpy
      refine ⟨fun q1 => ?_, fun q1 => if_neg (by omega)⟩
      rw [if_pos (by omega)]
      congr 1
      omega
    · rw [if_neg q]
      exact ⟨fun q1 => by omega, fun _ => rfl⟩
theorem dropN_at (M : Nat → Int) (f : Int) (hf : 0 ≤ f ∧ f < M 2) (hM : M 2 ≤ 14) : dropN M f 2 = M 2 - 1 ∧ (∀ j : Nat, j ≠ 2 → (j < 3 ∨ 129 ≤ j) → dropN M f j = M j) ∧ ∀ g j : Int, 0 ≤ g → g < M 2 - 1 → 0 ≤ j → j < 9 → (f ≤ g → ((dropN M f) (3 + 9 * g + j).toNat) = (M (3 + 9 * (g + 1) + j).toNat)) ∧ (g < f → ((dropN M f) (3 + 9 * g + j).toNat) = (M (3 + 9 * g + j).toNat)) := by
  unfold dropN
  have z : ∀ j : Nat, ((j : Int) < 3 + 9 * (M 2 - 1) ∨ 129 ≤ j) → zrN (shN (su M 2 (M 2 - 1)) (3 + 9 * f) (3 + 9 * (M 2 - 1))) (3 + 9 * (M 2 - 1)) 9 j = shN (su M 2 (M 2 - 1)) (3 + 9 * f) (3 + 9 * (M 2 - 1)) j := fun j hj => by
    unfold zrN
    exact if_neg (by omega)
  refine ⟨?_, fun j h1 h2 => ?_, fun g j h1 h2 h3 h4 => ?_⟩
  · rw [z 2 (by omega)]
    unfold shN
    rw [if_neg (by omega), su_s]
  · rw [z j (by omega)]
    unfold shN
    rw [if_neg (by omega), su_n h1]
  · rw [z _ (by omega)]
    unfold shN
    refine ⟨fun q => ?_, fun q => ?_⟩
    · rw [if_pos (by omega), su_n (by omega)]
      congr 1
      omega
    · rw [if_neg (by omega), su_n (by omega)]
theorem RG_forget {N M : Nat → Int} (h : RG N M) {f : Int} (hf : 0 ≤ f ∧ f < N 0) : RG (forgetN N f) (dropN M f) := by
  have e0 := h.1.1
  have w0 := h.2.1.1
  obtain ⟨a1, a2, a3⟩ := forgetN_at N f hf w0.2
  obtain ⟨b1, b2, b3⟩ := dropN_at M f (by omega) (by omega)
  refine RG_of h ⟨by rw [a1, b1]; omega, by omega, by omega⟩ ⟨⟨a2 1 (by omega) (by omega), a2 2 (by omega) (by omega)⟩, b2 0 (by omega) (by omega), b2 1 (by omega) (by omega)⟩ (fun j q1 q2 => ⟨a2 j (by omega) (by omega), b2 _ (by omega) (by omega)⟩) (fun g q1 q2 => ?_)
  rw [a1] at q2
  have mv : ∃ g', 0 ≤ g' ∧ g' < N 0 ∧ ∀ j, 0 ≤ j → j < 9 → ((forgetN N f) (23 + g * 9 + j).toNat) = (N (23 + g' * 9 + j).toNat) ∧ ((dropN M f) (3 + 9 * g + j).toNat) = (M (3 + 9 * g' + j).toNat) := by
    by_cases q : f ≤ g
    · exact ⟨g + 1, by omega, by omega, fun j c1 c2 => ⟨(a3 g j q1 q2 c1 c2).1 q, (b3 g j q1 (by omega) c1 c2).1 q⟩⟩
    · exact ⟨g, q1, by omega, fun j c1 c2 => ⟨(a3 g j q1 q2 c1 c2).2 (by omega), (b3 g j q1 (by omega) c1 c2).2 (by omega)⟩⟩
  obtain ⟨g', g1, g2, y⟩ := mv
  obtain ⟨k1, k2⟩ := h.2.1.2.2 g' g1 g2
  refine ⟨fun j c1 c2 => ?_, ?_, ?_⟩
  · rw [(y j c1 c2).1, (y j c1 c2).2]
    exact h.1.2.2.2.2 g' j g1 g2 c1 c2
  · unfold okF at k1 ⊢
    rw [(y 2 (by omega) (by omega)).1, (y 3 (by omega) (by omega)).1, (y 4 (by omega) (by omega)).1, (y 5 (by omega) (by omega)).1, (y 6 (by omega) (by omega)).1, (y 7 (by omega) (by omega)).1]
    exact k1
  · unfold okI at k2 ⊢
    rw [(y 0 (by omega) (by omega)).1, (y 1 (by omega) (by omega)).1]
    exact k2
theorem RG_carry {N M : Nat → Int} (h : RG N M) {t f lv c : Int} (ht : 0 ≤ t ∧ t < 4) (hf : 0 ≤ f ∧ f < N 0) (hl : 0 ≤ lv ∧ lv ≤ 1439) (hc : 0 ≤ c ∧ c ≤ (N (3 + t * 5 + 2).toNat)) : RG (carryN N t f lv c) (takeN M t f lv c) := by
  unfold carryN takeN
  have w := h.2.1.2.2 f hf.1 hf.2
  have e1 := h.1.2.2.2.2 f 1 hf.1 hf.2 (by omega) (by omega)
  rw [← e1]
  have h1 := RG_suT h (k := 0) (v := (N (23 + f * 9 + 1).toNat)) ht (by omega) ⟨fun _ => w.2.2, fun q => by omega, fun q => by omega⟩
  have p1 : su N (3 + t * 5 + 0).toNat (N (23 + f * 9 + 1).toNat) 0 = N 0 := su_n (by omega)
  have q1 : ((su N (3 + t * 5 + 0).toNat (N (23 + f * 9 + 1).toNat)) (3 + t * 5 + 2).toNat) = (N (3 + t * 5 + 2).toNat) := su_n (by omega)
  rw [← q1] at hc
  rw [← p1] at hf
  clear w e1 p1 q1
  generalize su N (3 + t * 5 + 0).toNat (N (23 + f * 9 + 1).toNat) = N1 at *
  dsimp only
  generalize su M (129 + 5 * t + 0).toNat _ = M1 at *
  clear h
  have w := h1.2.1.2.2 f hf.1 hf.2
  have e1 := h1.1.2.2.2.2 f 4 hf.1 hf.2 (by omega) (by omega)
  have w4 := w.1.2.2.1
  rw [← e1]
  have h2 := RG_suT h1 (k := 1) (v := lv + (N1 (23 + f * 9 + 4).toNat)) ht (by omega) ⟨fun q => by omega, fun _ => by omega, fun q => by omega⟩
  have p1 : su N1 (3 + t * 5 + 1).toNat (lv + (N1 (23 + f * 9 + 4).toNat)) 0 = N1 0 := su_n (by omega)
  have q1 : ((su N1 (3 + t * 5 + 1).toNat (lv + (N1 (23 + f * 9 + 4).toNat))) (3 + t * 5 + 2).toNat) = (N1 (3 + t * 5 + 2).toNat) := su_n (by omega)
  rw [← q1] at hc
  rw [← p1] at hf
  clear w e1 p1 q1 w4
  generalize su N1 (3 + t * 5 + 1).toNat (lv + (N1 (23 + f * 9 + 4).toNat)) = N2 at *
  generalize su M1 (129 + 5 * t + 1).toNat _ = M2 at *
  clear h1
  have w := h2.2.2 t ht.1 ht.2
  have e1 := h2.1.2.2.2.1 t 2 ht.1 ht.2 (by omega) (by omega)
  have w3 := w.2.2
  rw [← e1]
  have h3 := RG_suT h2 (k := 2) (v := (N2 (3 + t * 5 + 2).toNat) - c) ht (by omega) ⟨fun q => by omega, fun q => by omega, fun _ => by omega⟩
  have p1 : su N2 (3 + t * 5 + 2).toNat ((N2 (3 + t * 5 + 2).toNat) - c) 0 = N2 0 := su_n (by omega)
  rw [← p1] at hf
  clear w e1 p1 w3 hc
  generalize su N2 (3 + t * 5 + 2).toNat ((N2 (3 + t * 5 + 2).toNat) - c) = N3 at *
  generalize su M2 (129 + 5 * t + 2).toNat _ = M3 at *
  clear h2
  have e1 := h3.1.2.2.2.1 t 3 ht.1 ht.2 (by omega) (by omega)
  rw [← e1]
  have h4 := RG_suT h3 (k := 3) (v := (N3 (3 + t * 5 + 3).toNat) + 1) ht (by omega) ⟨fun q => by omega, fun q => by omega, fun q => by omega⟩
  have p1 : su N3 (3 + t * 5 + 3).toNat ((N3 (3 + t * 5 + 3).toNat) + 1) 0 = N3 0 := su_n (by omega)
  rw [← p1] at hf
  clear e1 p1
  generalize su N3 (3 + t * 5 + 3).toNat ((N3 (3 + t * 5 + 3).toNat) + 1) = N4 at *
  generalize su M3 (129 + 5 * t + 3).toNat _ = M4 at *
  clear h3
  have e1 := h4.1.2.2.2.1 t 4 ht.1 ht.2 (by omega) (by omega)
  rw [← e1]
  have h5 := RG_suT h4 (k := 4) (v := (N4 (3 + t * 5 + 4).toNat) + c) ht (by omega) ⟨fun q => by omega, fun q => by omega, fun q => by omega⟩
  have p1 : su N4 (3 + t * 5 + 4).toNat ((N4 (3 + t * 5 + 4).toNat) + c) 0 = N4 0 := su_n (by omega)
  rw [← p1] at hf
  clear e1 p1
  generalize su N4 (3 + t * 5 + 4).toNat ((N4 (3 + t * 5 + 4).toNat) + c) = N5 at *
  generalize su M4 (129 + 5 * t + 4).toNat _ = M5 at *
  clear h4
  have e1 := h5.1.2.2.2.2 f 8 hf.1 hf.2 (by omega) (by omega)
  rw [← e1]
  exact RG_suF h5 hf (by omega) ⟨fun q => by omega, fun q => by omega⟩
/-- saved rows -/
def rwV (V : Nat → Int) (s : Int) : Nat → Int := fun j => V ((s * 149).toNat + j)
def rwP (P : Nat → Int) (i : Int) : Nat → Int := fun j => P ((149 * i).toNat + j)
def SV (V : Nat → Int) (os : Int) (P : Nat → Int) (n : Int) : Prop := ∀ i : Int, 0 ≤ i → i < n → RG (rwV V ((os + i) % 6)) (rwP P i)
theorem SV_save {N M V P : Nat → Int} {sc os : Int} (h : RG N M) (ho : okV sc os) (hs : SV V os P sc) : SV (svV N V sc os) (svO sc os) (msP M P sc) (svS sc + 1) ∧ okV (svS sc + 1) (svO sc os) := by
  have hS : 0 ≤ svS sc ∧ svS sc ≤ 5 := by unfold svS; split <;> omega
  have hO : 0 ≤ svO sc os ∧ svO sc os < 6 := by unfold svO; split <;> omega
  refine ⟨fun i h1 h2 => ?_, by omega, hO⟩
  by_cases q : i = svS sc
  · subst q
    refine RG_cong h (fun j hj => ?_) (fun j hj => ?_)
    · unfold rwV svV va_cpy
      rw [if_pos (by omega)]
      congr 1
      omega
    · unfold rwP msP cpP
      rw [if_pos (by omega)]
      congr 1
      omega
  · have hi : 0 ≤ (if sc = 6 then i + 1 else i) ∧ (if sc = 6 then i + 1 else i) < sc ∧ (os + (if sc = 6 then i + 1 else i)) % 6 = (svO sc os + i) % 6 := by
      unfold svS at q h2
      unfold svO
      by_cases q6 : sc = 6
      · rw [if_pos q6] at q h2 ⊢
        rw [if_pos q6]
        omega
      · rw [if_neg q6] at q h2 ⊢
        rw [if_neg q6]
        exact ⟨h1, by omega, rfl⟩
    have h3 := hs _ hi.1 hi.2.1
    rw [hi.2.2] at h3
    refine RG_cong h3 (fun j hj => ?_) (fun j hj => ?_)
    · unfold rwV svV va_cpy
      exact if_neg (by omega)
    · unfold rwP msP cpP
      rw [if_neg (by omega)]
      by_cases q6 : sc = 6
      · rw [if_pos q6, if_pos q6]
        unfold shP
        rw [if_pos (by omega)]
        congr 1
        omega
      · rw [if_neg q6, if_neg q6]
theorem SV_undo {N M V P : Nat → Int} {sc os : Int} (ho : okV sc os) (h0 : 0 < sc) (hs : SV V os P sc) : RG (va_cpy V N ((os + (sc - 1)) % 6 * 149).toNat 0 149) (unP M P (149 * (sc - 1)) 149) ∧ SV V os P (sc - 1) ∧ okV (sc - 1) os := by
  refine ⟨RG_cong (hs (sc - 1) (by omega) (by omega)) (fun j hj => ?_) (fun j hj => ?_), fun i h1 h2 => hs i h1 (by omega), by omega, ho.2⟩
  · unfold rwV va_cpy
    rw [if_pos (by omega)]
    rfl
  · unfold rwP unP
    rw [if_pos (by omega)]
    congr 1
    omega
end EQS
