section EQT
/-! the class's reader, sign by sign, and the model's, part by part -/
def rr (C : Nat → Int) (ln i : Int) (U : Nat → Int) (pt sg fr vl : Int) : tAc := aRd C (ln - i).toNat i U pt sg fr vl
theorem rr_end (C : Nat → Int) (ln : Int) (U : Nat → Int) (pt sg fr vl : Int) : rr C ln ln U pt sg fr vl = (ln, U, pt, sg, fr, vl) := by
  unfold rr
  rw [show (ln - ln).toNat = 0 by omega]
  rfl
theorem rr_no {C : Nat → Int} {ln i : Int} {U : Nat → Int} {pt sg fr vl : Int} (h : i < ln) (h2 : (aAc U pt sg fr vl (C i.toNat)).1 = 0) : rr C ln i U pt sg fr vl = (i, (aAc U pt sg fr vl (C i.toNat)).2) := by
  unfold rr
  rw [show (ln - i).toNat = (ln - (i + 1)).toNat + 1 by omega]
  unfold aRd
  exact if_pos h2
theorem rr_yes {C : Nat → Int} {ln i : Int} {U : Nat → Int} {pt sg fr vl : Int} (h : i < ln) {U' : Nat → Int} {pt' sg' fr' vl' : Int} (h2 : aAc U pt sg fr vl (C i.toNat) = (1, U', pt', sg', fr', vl')) : rr C ln i U pt sg fr vl = rr C ln (i + 1) U' pt' sg' fr' vl' := by
  unfold rr
  rw [show (ln - i).toNat = (ln - (i + 1)).toNat + 1 by omega]
  generalize (ln - (i + 1)).toNat = n
  show (if (aAc U pt sg fr vl (C i.toNat)).1 = 0 then ((i, (aAc U pt sg fr vl (C i.toNat)).2) : tAc) else aRd C n (i + 1) (aAc U pt sg fr vl (C i.toNat)).2.1 (aAc U pt sg fr vl (C i.toNat)).2.2.1 (aAc U pt sg fr vl (C i.toNat)).2.2.2.1 (aAc U pt sg fr vl (C i.toNat)).2.2.2.2.1 (aAc U pt sg fr vl (C i.toNat)).2.2.2.2.2) = _
  rw [h2]
  exact if_neg (show ¬ (1 : Int) = 0 by decide)
/-- broken off at j -/
def failR (ln : Int) (r : tAc) (j : Int) : Prop := r.1 = j ∧ ¬ aWh ln r
theorem fail_no {C : Nat → Int} {ln i : Int} {U : Nat → Int} {pt sg fr vl : Int} (h : i < ln) (h2 : (aAc U pt sg fr vl (C i.toNat)).1 = 0) : failR ln (rr C ln i U pt sg fr vl) i := by
  rw [rr_no h h2]
  exact ⟨rfl, fun q => by have := q.1; dsimp only at this; omega⟩
theorem fail_end {C : Nat → Int} {ln i : Int} {U : Nat → Int} {pt sg fr vl : Int} (h : i = ln) (h2 : ¬ ((sg = 5 ∧ vl ≠ -1) ∨ sg = 6)) : failR ln (rr C ln i U pt sg fr vl) i := by
  subst h
  rw [rr_end]
  exact ⟨rfl, fun q => h2 q.2⟩
def agr (U R : Nat → Int) (pt k : Int) : Prop := ∀ q j : Int, 0 ≤ q → 0 ≤ j → j < 7 → (q < pt ∨ (q = pt ∧ j < k)) → U (q * 7 + j).toNat = R (7 * q + j).toNat
theorem agr_su {U R : Nat → Int} {pt k k' v : Int} (h : agr U R pt k) (hp : 0 ≤ pt) (hk : 0 ≤ k ∧ k < 7) (hk' : k' = k + 1) : agr (su U (pt * 7 + k).toNat v) (su R (7 * pt + k).toNat v) pt k' := by
  subst hk'
  intro q j h1 h2 h3 h4
  by_cases e : q = pt ∧ j = k
  · obtain ⟨rfl, rfl⟩ := e
    rw [su_s, su_s]
  · rw [su_n (by omega), su_n (by omega)]
    exact h q j h1 h2 h3 (by omega)
theorem keepU_5 {U : Nat → Int} {pt k v : Int} (h : pt ≤ 5) : keepU U pt k v = su U (pt * 7 + k).toNat v := by
  unfold keepU
  exact if_pos (by omega)
theorem su_su (U : Nat → Int) (k : Nat) (a b : Int) : su (su U k a) k b = su U k b := by
  funext j
  unfold su
  split <;> rfl
/-- a digit is refused -/
def rejD (sg vl d : Int) : Prop := vl = 0 ∨ ¬ (kLEAST sg.toNat ≤ aLo vl d ∧ aLo vl d ≤ kMOST sg.toNat)
theorem aAc_dg {U : Nat → Int} {pt sg fr vl c : Int} (h : 2 ≤ sg ∧ sg ≤ 5) (hc : 48 ≤ c ∧ c ≤ 57) : (rejD sg vl (c - 48) → (aAc U pt sg fr vl c).1 = 0) ∧ (¬ rejD sg vl (c - 48) → aAc U pt sg fr vl c = (1, keepU U pt sg (aLo vl (c - 48)), pt, sg, fr, aLo vl (c - 48))) := by
  unfold aAc
  rw [if_neg (by omega), if_pos ⟨h, hc⟩]
  unfold aDg rejD
  constructor
  · intro q
    rw [if_pos q]
  · intro q
    rw [if_neg q]
theorem aAc_sg {U : Nat → Int} {pt sg fr vl c : Int} (h : ¬ (sg ≤ 1 ∧ vl = -1)) (hc : ¬ ((2 ≤ sg ∧ sg ≤ 5) ∧ (48 ≤ c ∧ c ≤ 57))) : aAc U pt sg fr vl c = aSg U pt sg fr vl c := by
  unfold aAc
  rw [if_neg h, if_neg hc]
theorem aAc_is {U : Nat → Int} {pt sg fr vl c : Int} (h : sg ≤ 1 ∧ vl = -1) : aAc U pt sg fr vl c = aIs U pt sg fr vl (c - 97) := by
  unfold aAc
  rw [if_pos h]
/-- two islands -/
theorem isl_P {C : Nat → Int} {ln i : Int} {U R : Nat → Int} {pt fr : Int} (hi : i ≤ ln) : (((mIsl C ln R i (7 * pt)).1 = 0 ∧ failR ln (rr C ln i U pt 0 fr (-1)) (mIsl C ln R i (7 * pt)).2.1) ∨
    ((mIsl C ln R i (7 * pt)).1 = 1 ∧ (mIsl C ln R i (7 * pt)).2.1 = i + 2 ∧ i + 2 ≤ ln ∧ ∃ a b, b ≠ -1 ∧ rr C ln i U pt 0 fr (-1) = rr C ln (i + 2) (keepU (keepU U pt 0 a) pt 1 b) pt 1 a b ∧ (mIsl C ln R i (7 * pt)).2.2 = su (su R (7 * pt).toNat a) (7 * pt + 1).toNat b)) := by
  unfold mIsl
  by_cases h1 : seP C ln i 97 104
  · rw [if_neg (fun q => q h1)]
    obtain ⟨s1, s2, s3⟩ := h1
    have y1 : rr C ln i U pt 0 fr (-1) = rr C ln (i + 1) (keepU U pt 0 (C i.toNat - 97)) pt 1 (C i.toNat - 97) (-1) := by
      refine rr_yes s1 ?_
      rw [aAc_is ⟨by omega, rfl⟩]
      unfold aIs
      rw [if_neg (by omega), if_pos rfl]
    rw [y1]
    by_cases h2 : seP C ln (i + 1) 97 104 ∧ C (i + 1).toNat - 97 ≠ C i.toNat - 97
    · rw [if_neg (fun q => q h2)]
      obtain ⟨⟨t1, t2, t3⟩, t4⟩ := h2
      have y2 : rr C ln (i + 1) (keepU U pt 0 (C i.toNat - 97)) pt 1 (C i.toNat - 97) (-1) = rr C ln (i + 1 + 1) (keepU (keepU U pt 0 (C i.toNat - 97)) pt 1 (C (i + 1).toNat - 97)) pt 1 (C i.toNat - 97) (C (i + 1).toNat - 97) := by
        refine rr_yes t1 ?_
        rw [aAc_is ⟨by omega, rfl⟩]
        unfold aIs
        rw [if_neg (by omega), if_neg (by omega), if_neg t4]
      refine Or.inr ⟨rfl, by show i + 1 + 1 = i + 2; omega, by omega, _, _, ?_, ?_, rfl⟩
      · omega
      · rw [y2, show i + 1 + 1 = i + 2 by omega]
    · rw [if_pos h2]
      refine Or.inl ⟨rfl, ?_⟩
      dsimp only
      by_cases h3 : i + 1 = ln
      · exact fail_end h3 (by omega)
      · refine fail_no (by omega) ?_
        rw [aAc_is ⟨by omega, rfl⟩]
        unfold aIs
        by_cases h4 : 0 ≤ C (i + 1).toNat - 97 ∧ C (i + 1).toNat - 97 ≤ 7
        · rw [if_neg (fun q => q h4), if_neg (by omega)]
          rw [if_pos (Classical.byContradiction fun q => h2 ⟨⟨by omega, by omega, by omega⟩, q⟩)]
        · rw [if_pos h4]
  · rw [if_pos h1]
    refine Or.inl ⟨rfl, ?_⟩
    dsimp only
    by_cases h3 : i = ln
    · exact fail_end h3 (by omega)
    · refine fail_no (by omega) ?_
      rw [aAc_is ⟨by omega, rfl⟩]
      unfold aIs
      rw [if_pos (fun q => h1 ⟨by omega, by omega, by omega⟩)]
/-- digits -/
theorem mDg_P {C : Nat → Int} {ln : Int} {pt sg fr : Int} (hp : pt ≤ 5) (hs : 2 ≤ sg ∧ sg ≤ 5) : ∀ (n : Nat) (v ta vl : Int) (U : Nat → Int), n = (ln - ta).toNat → ta < ln → (48 ≤ C ta.toNat ∧ C ta.toNat ≤ 57) → ((vl = -1 ∧ v = 0) ∨ (vl = v ∧ 0 < v)) →
    (kLEAST sg.toNat ≤ 10 * v + C ta.toNat - 48 ∧ 10 * v + C ta.toNat - 48 ≤ kMOST sg.toNat) →
    rr C ln ta U pt sg fr vl = rr C ln (mDg C ln (kMOST sg.toNat) n v ta).2 (keepU U pt sg (mDg C ln (kMOST sg.toNat) n v ta).1) pt sg fr (mDg C ln (kMOST sg.toNat) n v ta).1 ∧
    ta < (mDg C ln (kMOST sg.toNat) n v ta).2 ∧ (mDg C ln (kMOST sg.toNat) n v ta).2 ≤ ln ∧ (mDg C ln (kMOST sg.toNat) n v ta).1 ≠ -1 ∧
    ((mDg C ln (kMOST sg.toNat) n v ta).2 < ln → (48 ≤ C (mDg C ln (kMOST sg.toNat) n v ta).2.toNat ∧ C (mDg C ln (kMOST sg.toNat) n v ta).2.toNat ≤ 57) → rejD sg (mDg C ln (kMOST sg.toNat) n v ta).1 (C (mDg C ln (kMOST sg.toNat) n v ta).2.toNat - 48)) := by
  intro n
  induction n with
  | zero => intro v ta vl U h1 h2; omega
  | succ n ih =>
    intro v ta vl U h1 h2 h3 h4 h5
    have hl := kLEAST_in sg.toNat
    have hv : aLo vl (C ta.toNat - 48) = 10 * v + C ta.toNat - 48 := by
      unfold aLo
      rcases h4 with ⟨a, b⟩ | ⟨a, b⟩
      · rw [if_pos a]; omega
      · rw [if_neg (by omega)]; omega
    have y : rr C ln ta U pt sg fr vl = rr C ln (ta + 1) (keepU U pt sg (10 * v + C ta.toNat - 48)) pt sg fr (10 * v + C ta.toNat - 48) := by
      refine rr_yes h2 ?_
      have q := (aAc_dg (U := U) (pt := pt) (fr := fr) (vl := vl) hs h3).2 (by
        unfold rejD
        rw [hv]
        intro r
        rcases r with r | r
        · omega
        · exact r h5)
      rw [hv] at q
      exact q
    unfold mDg
    by_cases h6 : 0 < 10 * v + C ta.toNat - 48 ∧ seP C ln (ta + 1) 48 57 ∧ 10 * (10 * v + C ta.toNat - 48) + C (ta + 1).toNat - 48 ≤ kMOST sg.toNat
    · rw [if_pos h6]
      obtain ⟨a, ⟨b1, b2, b3⟩, c⟩ := h6
      obtain ⟨k1, k2, k3, k4, k5⟩ := ih (10 * v + C ta.toNat - 48) (ta + 1) (10 * v + C ta.toNat - 48) (keepU U pt sg (10 * v + C ta.toNat - 48)) (by omega) b1 ⟨b2, b3⟩ (Or.inr ⟨rfl, a⟩) ⟨by omega, c⟩
      refine ⟨?_, by omega, k3, k4, k5⟩
      rw [y, k1, keepU_5 hp, keepU_5 hp, keepU_5 hp, su_su]
    · rw [if_neg h6]
      dsimp only
      refine ⟨y, by omega, by omega, by omega, fun r1 r2 => ?_⟩
      unfold rejD aLo
      rw [if_neg (by omega)]
      by_cases h7 : 10 * v + C ta.toNat - 48 = 0
      · exact Or.inl h7
      · right
        intro q
        exact h6 ⟨by omega, ⟨r1, r2.1, r2.2⟩, by omega⟩
theorem kSIGN_P {sg : Int} (h : 1 ≤ sg ∧ sg ≤ 4) : (33 ≤ kSIGN sg.toNat ∧ kSIGN sg.toNat ≤ 47 ∨ kSIGN sg.toNat = 64) ∧ kSIGN sg.toNat ≠ 59 := by
  rcases (show sg = 1 ∨ sg = 2 ∨ sg = 3 ∨ sg = 4 by omega) with rfl | rfl | rfl | rfl <;> decide
/-- a number with the sign ahead of it -/
theorem num_P {C : Nat → Int} {ln i : Int} {U R : Nat → Int} {pt sg s' fr v : Int} (hp : 0 ≤ pt ∧ pt ≤ 5) (hi : i ≤ ln) (hs : 1 ≤ sg ∧ sg ≤ 4) (hs' : s' = sg + 1) (hv : v ≠ -1) (hx : 2 ≤ sg → i < ln → (48 ≤ C i.toNat ∧ C i.toNat ≤ 57) → rejD sg v (C i.toNat - 48)) {c lo hi' : Int} (hc : c = kSIGN sg.toNat) (hlo : lo = kLEAST s'.toNat) (hhi : hi' = kMOST s'.toNat) {p : Int} (hp2 : p = 7 * pt + s') :
    (((mNum C ln R i c lo hi' p).1 = 0 ∧ failR ln (rr C ln i U pt sg fr v) (mNum C ln R i c lo hi' p).2.1) ∨
    ((mNum C ln R i c lo hi' p).1 = 1 ∧ i + 2 ≤ (mNum C ln R i c lo hi' p).2.1 ∧ (mNum C ln R i c lo hi' p).2.1 ≤ ln ∧ ∃ w, w ≠ -1 ∧ rr C ln i U pt sg fr v = rr C ln (mNum C ln R i c lo hi' p).2.1 (keepU U pt s' w) pt s' fr w ∧
      ((mNum C ln R i c lo hi' p).2.1 < ln → (48 ≤ C (mNum C ln R i c lo hi' p).2.1.toNat ∧ C (mNum C ln R i c lo hi' p).2.1.toNat ≤ 57) → rejD s' w (C (mNum C ln R i c lo hi' p).2.1.toNat - 48)) ∧ (mNum C ln R i c lo hi' p).2.2 = su R (7 * pt + s').toNat w)) := by
  subst hs'
  have hk := kSIGN_P hs
  rw [← hc] at hk
  have hle := kLEAST_in (sg + 1).toNat
  rw [← hlo] at hle
  have hmo : 9 ≤ kMOST (sg + 1).toNat := by
    rcases (show sg = 1 ∨ sg = 2 ∨ sg = 3 ∨ sg = 4 by omega) with rfl | rfl | rfl | rfl <;> decide
  unfold mNum
  by_cases h1 : seP C ln i c c
  · rw [if_neg (fun q => q h1)]
    obtain ⟨s1, s2, s3⟩ := h1
    have ec : C i.toNat = c := by omega
    have y1 : rr C ln i U pt sg fr v = rr C ln (i + 1) U pt (sg + 1) fr (-1) := by
      refine rr_yes s1 ?_
      rw [aAc_sg (by omega) (by omega)]
      unfold aSg
      rw [if_neg hv, if_neg (by omega), if_neg (by rw [ec, hc]; exact fun q => q rfl), if_neg (by omega)]
    rw [y1]
    by_cases h2 : seP C ln (i + 1) (if lo = 0 then 48 else 49) 57
    · rw [if_neg (fun q => q h2)]
      obtain ⟨t1, t2, t3⟩ := h2
      have t4 : 48 ≤ C (i + 1).toNat ∧ lo ≤ C (i + 1).toNat - 48 := by
        by_cases q : lo = 0
        · rw [if_pos q] at t2; omega
        · rw [if_neg q] at t2; omega
      rw [hhi]
      obtain ⟨k1, k2, k3, k4, k5⟩ := mDg_P (C := C) (ln := ln) (pt := pt) (sg := sg + 1) (fr := fr) hp.2 (by omega) (ln - (i + 1)).toNat 0 (i + 1) (-1) U rfl t1 ⟨t4.1, t3⟩ (Or.inl ⟨rfl, rfl⟩) (by omega)
      dsimp only
      refine Or.inr ⟨rfl, by omega, k3, _, k4, k1, k5, by rw [hp2]⟩
    · rw [if_pos h2]
      refine Or.inl ⟨rfl, ?_⟩
      dsimp only
      by_cases h3 : i + 1 = ln
      · exact fail_end h3 (by omega)
      · refine fail_no (by omega) ?_
        by_cases h4 : 48 ≤ C (i + 1).toNat ∧ C (i + 1).toNat ≤ 57
        · refine (aAc_dg (by omega) h4).1 ?_
          unfold rejD aLo
          rw [if_pos rfl, ← hlo]
          right
          intro q
          refine h2 ⟨by omega, ?_, h4.2⟩
          split <;> omega
        · rw [aAc_sg (by omega) (by omega)]
          unfold aSg
          rw [if_pos rfl]
  · rw [if_pos h1]
    refine Or.inl ⟨rfl, ?_⟩
    dsimp only
    by_cases h3 : i = ln
    · exact fail_end h3 (by omega)
    · refine fail_no (by omega) ?_
      by_cases h4 : (2 ≤ sg ∧ sg ≤ 5) ∧ (48 ≤ C i.toNat ∧ C i.toNat ≤ 57)
      · exact (aAc_dg h4.1 h4.2).1 (hx h4.1.1 (by omega) h4.2)
      · rw [aAc_sg (by omega) h4]
        unfold aSg
        rw [if_neg hv, if_neg (by omega), if_pos (fun q => h1 ⟨by omega, by omega, by omega⟩)]
/-- a part is over -/
def csP (C : Nat → Int) (ln j sg vl : Int) : Prop := vl ≠ -1 ∧ ((sg = 5 ∧ (j < ln → (¬ (C j.toNat = 94 ∨ C j.toNat = 95) ∧ ((48 ≤ C j.toNat ∧ C j.toNat ≤ 57) → rejD 5 vl (C j.toNat - 48))))) ∨ sg = 6)
theorem part_P {C : Nat → Int} {ln i : Int} {U R : Nat → Int} {pt fr : Int} (hp : 0 ≤ pt ∧ pt ≤ 5) (h0 : 0 ≤ i) (hi : i ≤ ln) (hz : U (pt * 7 + 6).toNat = 0) (ha : agr U R pt 0) :
    (((mPart C ln R pt i).1 = 0 ∧ failR ln (rr C ln i U pt 0 fr (-1)) (mPart C ln R pt i).2.1) ∨
    ((mPart C ln R pt i).1 = 1 ∧ i + 10 ≤ (mPart C ln R pt i).2.1 ∧ (mPart C ln R pt i).2.1 ≤ ln ∧ ∃ U' sg fr' vl, rr C ln i U pt 0 fr (-1) = rr C ln (mPart C ln R pt i).2.1 U' pt sg fr' vl ∧ csP C ln (mPart C ln R pt i).2.1 sg vl ∧ agr U' (mPart C ln R pt i).2.2 (pt + 1) 0)) := by
  have hpl : mPl pt = 7 * pt := by unfold mPl; rw [if_pos (by omega)]
  unfold mPart
  rw [hpl]
  unfold mThen
  rcases isl_P (C := C) (R := R) (U := U) (pt := pt) (fr := fr) hi with ⟨a0, b0⟩ | ⟨a0, b0, c0, a, b, d0, e0, g0⟩
  · rw [if_pos a0]
    exact Or.inl ⟨a0, b0⟩
  rw [if_neg (by omega), b0, g0, e0]
  rw [keepU_5 hp.2, keepU_5 hp.2]
  dsimp only
  have ha0 := agr_su (k' := 1) (v := a) ha hp.1 (by omega) rfl
  have ha1 := agr_su (k' := 2) (v := b) ha0 hp.1 (by omega) rfl
  rw [show 7 * pt + 0 = 7 * pt by omega] at ha1
  have hz1 : su (su U (pt * 7 + 0).toNat a) (pt * 7 + 1).toNat b (pt * 7 + 6).toNat = 0 := by
    rw [su_n (by omega), su_n (by omega)]
    exact hz
  generalize su (su U (pt * 7 + 0).toNat a) (pt * 7 + 1).toNat b = U1 at ha1 hz1 ⊢
  generalize su (su R (7 * pt).toNat a) (7 * pt + 1).toNat b = R1 at ha1 ⊢
  rcases num_P (C := C) (ln := ln) (R := R1) (U := U1) (pt := pt) (sg := 1) (s' := 2) (fr := a) (v := b) hp c0 (by omega) rfl d0 (fun q => by omega) (c := 64) (lo := 0) (hi' := 199) rfl rfl rfl (p := 7 * pt + 2) rfl with ⟨a1, b1⟩ | ⟨a1, b1, c1, w1, d1, e1, f1, g1⟩
  · rw [if_pos a1]
    exact Or.inl ⟨a1, b1⟩
  rw [if_neg (by omega), g1, e1, keepU_5 hp.2]
  try dsimp only
  have ha2 := agr_su (k' := 3) (v := w1) ha1 hp.1 (by omega) rfl
  have hz2 : su U1 (pt * 7 + 2).toNat w1 (pt * 7 + 6).toNat = 0 := by rw [su_n (by omega)]; exact hz1
  generalize (mNum C ln R1 (i + 2) 64 0 199 (7 * pt + 2)).2.1 = i1 at b1 c1 f1 ⊢
  generalize su U1 (pt * 7 + 2).toNat w1 = U2 at ha2 hz2 ⊢
  generalize su R1 (7 * pt + 2).toNat w1 = R2 at ha2 ⊢
  rcases num_P (C := C) (ln := ln) (R := R2) (U := U2) (pt := pt) (sg := 2) (s' := 3) (fr := a) (v := w1) hp c1 (by omega) rfl d1 (fun _ => f1) (c := 47) (lo := 1) (hi' := 199) rfl rfl rfl (p := 7 * pt + 3) rfl with ⟨a2, b2⟩ | ⟨a2, b2, c2, w2, d2, e2, f2, g2⟩
  · rw [if_pos a2]
    exact Or.inl ⟨a2, b2⟩
  rw [if_neg (by omega), g2, e2, keepU_5 hp.2]
  try dsimp only
  have ha3 := agr_su (k' := 4) (v := w2) ha2 hp.1 (by omega) rfl
  have hz3 : su U2 (pt * 7 + 3).toNat w2 (pt * 7 + 6).toNat = 0 := by rw [su_n (by omega)]; exact hz2
  generalize (mNum C ln R2 i1 47 1 199 (7 * pt + 3)).2.1 = i2 at b2 c2 f2 ⊢
  generalize su U2 (pt * 7 + 3).toNat w2 = U3 at ha3 hz3 ⊢
  generalize su R2 (7 * pt + 3).toNat w2 = R3 at ha3 ⊢
  rcases num_P (C := C) (ln := ln) (R := R3) (U := U3) (pt := pt) (sg := 3) (s' := 4) (fr := a) (v := w2) hp c2 (by omega) rfl d2 (fun _ => f2) (c := 43) (lo := 1) (hi' := 99) rfl rfl rfl (p := 7 * pt + 4) rfl with ⟨a3, b3⟩ | ⟨a3, b3, c3, w3, d3, e3, f3, g3⟩
  · rw [if_pos a3]
    exact Or.inl ⟨a3, b3⟩
  rw [if_neg (by omega), g3, e3, keepU_5 hp.2]
  try dsimp only
  have ha4 := agr_su (k' := 5) (v := w3) ha3 hp.1 (by omega) rfl
  have hz4 : su U3 (pt * 7 + 4).toNat w3 (pt * 7 + 6).toNat = 0 := by rw [su_n (by omega)]; exact hz3
  generalize (mNum C ln R3 i2 43 1 99 (7 * pt + 4)).2.1 = i3 at b3 c3 f3 ⊢
  generalize su U3 (pt * 7 + 4).toNat w3 = U4 at ha4 hz4 ⊢
  generalize su R3 (7 * pt + 4).toNat w3 = R4 at ha4 ⊢
  rcases num_P (C := C) (ln := ln) (R := R4) (U := U4) (pt := pt) (sg := 4) (s' := 5) (fr := a) (v := w3) hp c3 (by omega) rfl d3 (fun _ => f3) (c := 36) (lo := 0) (hi' := 99) rfl rfl rfl (p := 7 * pt + 5) rfl with ⟨a4, b4⟩ | ⟨a4, b4, c4, w4, d4, e4, f4, g4⟩
  · rw [if_pos a4]
    exact Or.inl ⟨a4, b4⟩
  rw [if_neg (by omega), g4, e4, keepU_5 hp.2]
  try dsimp only
  have ha5 := agr_su (k' := 6) (v := w4) ha4 hp.1 (by omega) rfl
  have hz5 : su U4 (pt * 7 + 5).toNat w4 (pt * 7 + 6).toNat = 0 := by rw [su_n (by omega)]; exact hz4
  generalize (mNum C ln R4 i3 36 0 99 (7 * pt + 5)).2.1 = i4 at b4 c4 f4 ⊢
  generalize su U4 (pt * 7 + 5).toNat w4 = U5 at ha5 hz5 ⊢
  generalize su R4 (7 * pt + 5).toNat w4 = R5 at ha5 ⊢
  unfold mKd
  dsimp only
  rw [su_s]
  right
  by_cases hk : seP C ln i4 94 95
  · rw [if_pos hk, if_pos (by have := hk.2; omega)]
    obtain ⟨s1, s2, s3⟩ := hk
    have ekd : (if C i4.toNat = 94 then (1 : Int) else 2) = C i4.toNat - 94 + 1 := by split <;> omega
    refine ⟨rfl, by omega, by omega, su U5 (pt * 7 + 6).toNat (C i4.toNat - 94 + 1), 6, a, w4, ?_, ⟨d4, Or.inr rfl⟩, ?_⟩
    · refine rr_yes s1 ?_
      rw [aAc_sg (by omega) (by omega)]
      unfold aSg
      rw [if_neg d4, if_pos ⟨by omega, by omega⟩, ekd, keepU_5 hp.2]
    · have ha6 := agr_su (k' := 7) (v := C i4.toNat - 94 + 1) ha5 hp.1 (by omega) rfl
      intro q j q1 q2 q3 q4
      exact ha6 q j q1 q2 q3 (by omega)
  · rw [if_neg hk, if_neg (by omega)]
    refine ⟨rfl, by omega, by omega, U5, 5, a, w4, by rw [show i4 + 0 = i4 by omega], ⟨d4, Or.inl ⟨rfl, fun r => ?_⟩⟩, fun q j q1 q2 q3 q4 => ?_⟩
    · rw [show i4 + 0 = i4 by omega] at r ⊢
      exact ⟨fun r2 => hk ⟨r, by omega, by omega⟩, f4 r⟩
    · by_cases q5 : q = pt ∧ j = 6
      · obtain ⟨rfl, rfl⟩ := q5
        rw [su_s]
        exact hz5
      · rw [su_n (by omega)]
        exact ha5 q j q1 q2 q3 (by omega)
/-- the two readers' ends tell the same -/
def endP (ln : Int) (r : tAc) (m : tCm) : Prop := r.1 = m.2.1 ∧ (aWh ln r ↔ m.1 ≠ 0) ∧ (m.1 ≠ 0 → m.2.2.2 = r.2.2.1 + 1 ∧ agr r.2.1 m.2.2.1 (r.2.2.1 + 1) 0)
theorem mCmp_0 (C : Nat → Int) (ln : Int) (n : Nat) (ta : Int) (R : Nat → Int) (pt : Int) : mCmp C ln n 0 ta R pt = (0, ta, R, pt) := by
  match n with
  | 0 => rfl
  | n + 1 =>
    unfold mCmp
    rw [if_pos (Or.inl rfl)]
theorem endP_fail {ln : Int} {r : tAc} {j : Int} {R : Nat → Int} {pt : Int} (h : failR ln r j) : endP ln r (0, j, R, pt) := ⟨h.1, ⟨fun q => absurd q h.2, fun q => absurd rfl q⟩, fun q => absurd rfl q⟩
theorem cmp_P {C : Nat → Int} {ln : Int} (hl : ln ≤ 60) : ∀ (n : Nat) (ta : Int) (U R : Nat → Int) (pt sg fr vl : Int), ln - ta ≤ n → ta ≤ ln → 0 ≤ pt → 11 * pt + 10 ≤ ta → csP C ln ta sg vl → agr U R (pt + 1) 0 → endP ln (rr C ln ta U pt sg fr vl) (mCmp C ln n 1 ta R (pt + 1)) := by
  have whole : ∀ (U R : Nat → Int) (pt sg fr vl : Int), csP C ln ln sg vl → agr U R (pt + 1) 0 → endP ln (rr C ln ln U pt sg fr vl) (1, ln, R, pt + 1) := by
    intro U R pt sg fr vl h1 h2
    rw [rr_end]
    refine ⟨rfl, ⟨fun _ => by dsimp only; omega, fun _ => ⟨rfl, ?_⟩⟩, fun _ => ⟨rfl, h2⟩⟩
    rcases h1.2 with ⟨q, -⟩ | q
    · exact Or.inl ⟨q, h1.1⟩
    · exact Or.inr q
  intro n
  induction n with
  | zero =>
    intro ta U R pt sg fr vl h1 h2 h3 h4 h5 h6
    have e : ta = ln := by omega
    subst e
    exact whole U R pt sg fr vl h5 h6
  | succ n ih =>
    intro ta U R pt sg fr vl h1 h2 h3 h4 h5 h6
    unfold mCmp
    by_cases h7 : ta < ln
    · rw [if_neg (by omega)]
      have nod : (48 ≤ C ta.toNat ∧ C ta.toNat ≤ 57) → (aAc U pt sg fr vl (C ta.toNat)).1 = 0 := by
        intro q
        rcases h5.2 with ⟨r, r2⟩ | r
        · rw [r]
          exact (aAc_dg (by omega) q).1 ((r2 h7).2 q)
        · rw [aAc_sg (by omega) (by omega)]
          unfold aSg
          rw [if_neg h5.1, if_neg (by omega), if_pos (by rw [r]; show C ta.toNat ≠ 59; omega)]
      by_cases h8 : seP C ln ta 59 59
      · rw [if_pos h8]
        have ec : C ta.toNat = 59 := by have := h8.2; omega
        have sg56 : sg = 5 ∨ sg = 6 := h5.2.elim (fun q => Or.inl q.1) Or.inr
        have hks : kSIGN sg.toNat = 59 := by rcases sg56 with rfl | rfl <;> rfl
        have y : rr C ln ta U pt sg fr vl = rr C ln (ta + 1) (keepU U (pt + 1) 6 0) (pt + 1) 0 fr (-1) := by
          refine rr_yes h7 ?_
          rw [aAc_sg (by omega) (by omega)]
          unfold aSg
          rw [if_neg h5.1, if_neg (by omega), if_neg (by rw [hks]; omega), if_pos ec]
        rw [y, keepU_5 (by omega)]
        rcases part_P (C := C) (ln := ln) (i := ta + 1) (U := su U ((pt + 1) * 7 + 6).toNat 0) (R := R) (pt := pt + 1) (fr := fr) (by omega) (by omega) (by omega) su_s (fun q j q1 q2 q3 q4 => by rw [su_n (by omega)]; exact h6 q j q1 q2 q3 (by omega)) with ⟨a0, b0⟩ | ⟨a0, b0, c0, U', sg', fr', vl', d0, e0, f0⟩
        · rw [a0, mCmp_0]
          exact endP_fail b0
        · rw [a0, d0]
          exact ih _ U' _ (pt + 1) sg' fr' vl' (by omega) c0 (by omega) (by omega) e0 f0
      · rw [if_neg h8, mCmp_0]
        refine endP_fail (fail_no h7 ?_)
        by_cases h9 : 48 ≤ C ta.toNat ∧ C ta.toNat ≤ 57
        · exact nod h9
        · have sg56 : sg = 5 ∨ sg = 6 := h5.2.elim (fun q => Or.inl q.1) Or.inr
          have hks : kSIGN sg.toNat = 59 := by rcases sg56 with rfl | rfl <;> rfl
          rw [aAc_sg (by omega) (by omega)]
          unfold aSg
          rw [if_neg h5.1, if_neg ?_, if_pos ?_]
          · rw [hks]
            exact fun q => h8 ⟨h7, by omega, by omega⟩
          · rintro ⟨q1, q2⟩
            rcases h5.2 with ⟨-, r2⟩ | r
            · exact (r2 h7).1 q2
            · omega
    · rw [if_pos (Or.inr h7)]
      have e : ta = ln := by omega
      subst e
      exact whole U R pt sg fr vl h5 h6
theorem read_eq {C : Nat → Int} {ln : Int} (hC : okC C ln) (U R : Nat → Int) (fr : Int) : endP ln (aR0 C U ln fr) (mC0 C ln R) := by
  have hl := hC.1
  have e : aR0 C U ln fr = rr C ln 0 (su U ((0 : Int) * 7 + 6).toNat 0) 0 0 fr (-1) := by
    unfold rr
    unfold aR0
    rw [keepU_5 (by omega), show (ln - 0).toNat = ln.toNat by omega]
  rw [e]
  unfold mC0
  rcases part_P (C := C) (ln := ln) (i := 0) (U := su U ((0 : Int) * 7 + 6).toNat 0) (R := R) (pt := 0) (fr := fr) (by omega) (by omega) (by omega) su_s (fun q j q1 q2 q3 q4 => by omega) with ⟨a0, b0⟩ | ⟨a0, b0, c0, U', sg', fr', vl', d0, e0, f0⟩
  · rw [a0, mCmp_0]
    exact endP_fail b0
  · rw [a0, d0]
    exact cmp_P hl.2 61 _ U' _ 0 sg' fr' vl' (by omega) c0 (by omega) (by omega) e0 f0
end EQT
