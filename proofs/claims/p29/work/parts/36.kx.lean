noncomputable section EQK
/-! what the law asks of ways, told of the class's row -/
theorem fArr_ind {N : Nat → Int} (hW : okW N) {A B : Nat → Int} {i m : Int} (hm : 0 ≤ m ∧ m ≤ 1439) {k : Nat} (hk : k < 8) : fArr N A i m k = fArr N B i m k := by
  obtain ⟨a1, a2, a3⟩ := fArr_P hW (A := A) (i := i) hm
  obtain ⟨b1, b2, b3⟩ := fArr_P hW (A := B) (i := i) hm
  have h := rUniq (aQ_ok hW) a1 a2 a3 b1 b2 b3 k hk
  have c1 := eA_in (fArr_ok hW (A := A) (i := i) (m := m) (by omega)) hk
  have c2 := eA_in (fArr_ok hW (A := B) (i := i) (m := m) (by omega)) hk
  omega
def tA (N : Nat → Int) (i m : Int) : Nat → Int := fArr N (fun _ => 0) i m
theorem fArr_tA {N : Nat → Int} (hW : okW N) {A : Nat → Int} {i m : Int} (hm : 0 ≤ m ∧ m ≤ 1439) {k : Nat} (hk : k < 8) : fArr N A i m k = tA N i m k := fArr_ind hW hm hk
theorem tA_ok {N : Nat → Int} (hW : okW N) {i m : Int} (hm : 0 ≤ m ∧ m ≤ 1439) : okR8 (tA N i m) := fArr_ok hW (by omega)
theorem tA_at {N : Nat → Int} (hW : okW N) {i m : Int} (hi : 0 ≤ i ∧ i < 8) (hm : 0 ≤ m ∧ m ≤ 1439) : tA N i m i.toNat = m := fArr_at hW hi hm
/-- the least by the ferries that come in, as the law computes it -/
def byC (N T : Nat → Int) (j f : Int) : Int := if (N (23 + f * 9 + 1).toNat) = j ∧ 0 ≤ T (N (23 + f * 9 + 0).toNat).toNat ∧ T (N (23 + f * 9 + 0).toNat).toNat ≤ 1439 then NL N f (T (N (23 + f * 9 + 0).toNat).toNat) else -1
def byF (N T : Nat → Int) (j : Int) (n : Nat) (f b : Int) : Int := match n with
  | 0 => b
  | n + 1 => byF N T j n (f + 1) (if 0 ≤ byC N T j f ∧ (b < 0 ∨ byC N T j f + (N (23 + f * 9 + 4).toNat) < b) then byC N T j f + (N (23 + f * 9 + 4).toNat) else b)
theorem byF_P {N T : Nat → Int} {j : Int} : ∀ (n : Nat) (f b : Int), (∀ g : Int, f ≤ g → g < f + n → 1 ≤ (N (23 + g * 9 + 4).toNat)) → (byF N T j n f b = b ∨ ∃ g : Int, f ≤ g ∧ g < f + n ∧ 0 ≤ byC N T j g ∧ byF N T j n f b = byC N T j g + (N (23 + g * 9 + 4).toNat)) ∧ (∀ g : Int, f ≤ g → g < f + n → 0 ≤ byC N T j g → 0 ≤ byF N T j n f b ∧ byF N T j n f b ≤ byC N T j g + (N (23 + g * 9 + 4).toNat)) ∧ (0 ≤ b → 0 ≤ byF N T j n f b ∧ byF N T j n f b ≤ b) := by
  intro n
  induction n with
  | zero =>
    intro f b _
    exact ⟨Or.inl rfl, fun g h1 h2 => by omega, fun h => ⟨h, Int.le_refl _⟩⟩
  | succ n ih =>
    intro f b h0
    unfold byF
    have h4 := h0 f (by omega) (by omega)
    by_cases h : 0 ≤ byC N T j f ∧ (b < 0 ∨ byC N T j f + (N (23 + f * 9 + 4).toNat) < b)
    · rw [if_pos h]
      obtain ⟨k1, k2, k3⟩ := ih (f + 1) (byC N T j f + (N (23 + f * 9 + 4).toNat)) (fun g a c => h0 g (by omega) (by omega))
      have k3 := k3 (by omega)
      refine ⟨?_, fun g a c d => ?_, fun hb => ⟨k3.1, by omega⟩⟩
      · rcases k1 with q | ⟨g, g1, g2, g3, g4⟩
        · exact Or.inr ⟨f, by omega, by omega, h.1, q⟩
        · exact Or.inr ⟨g, by omega, by omega, g3, g4⟩
      · by_cases e : g = f
        · subst e; exact k3
        · exact k2 g (by omega) (by omega) d
    · rw [if_neg h]
      obtain ⟨k1, k2, k3⟩ := ih (f + 1) b (fun g a c => h0 g (by omega) (by omega))
      refine ⟨?_, fun g a c d => ?_, k3⟩
      · rcases k1 with q | ⟨g, g1, g2, g3, g4⟩
        · exact Or.inl q
        · exact Or.inr ⟨g, by omega, by omega, g3, g4⟩
      · by_cases e : g = f
        · subst e
          have hb : 0 ≤ b := by omega
          have := k3 hb
          omega
        · exact k2 g (by omega) (by omega) d
theorem byC_aSt {N : Nat → Int} (hW : okW N) {T : Nat → Int} (hT : okR8 T) {j f : Int} (h0 : 0 ≤ f) (h1 : f < N 0) : (0 ≤ byC N T j f → (N (23 + f * 9 + 1).toNat) = j ∧ aSt N f (eA T (N (23 + f * 9 + 0).toNat).toNat) = byC N T j f + (N (23 + f * 9 + 4).toNat)) ∧ ((N (23 + f * 9 + 1).toNat) = j → aSt N f (eA T (N (23 + f * 9 + 0).toNat).toNat) < 1000000 → 0 ≤ byC N T j f) := by
  obtain ⟨g1, g2, g3⟩ := hW.2.2 f h0 h1
  have c := eA_in hT (k := (N (23 + f * 9 + 0).toNat).toNat) (by omega)
  unfold byC
  constructor
  · intro h
    by_cases q : (N (23 + f * 9 + 1).toNat) = j ∧ 0 ≤ T (N (23 + f * 9 + 0).toNat).toNat ∧ T (N (23 + f * 9 + 0).toNat).toNat ≤ 1439
    · rw [if_pos q] at h ⊢
      have e : eA T (N (23 + f * 9 + 0).toNat).toNat = T (N (23 + f * 9 + 0).toNat).toNat := by omega
      rw [e]
      refine ⟨q.1, ?_⟩
      unfold aSt
      exact if_neg (by omega)
    · rw [if_neg q] at h
      omega
  · intro hj h
    rcases aSt_e g1 (eA T (N (23 + f * 9 + 0).toNat).toNat) with ⟨-, d, -⟩ | ⟨d1, d2, d3, -⟩
    · omega
    · have q : (N (23 + f * 9 + 1).toNat) = j ∧ 0 ≤ T (N (23 + f * 9 + 0).toNat).toNat ∧ T (N (23 + f * 9 + 0).toNat).toNat ≤ 1439 := by omega
      have e : eA T (N (23 + f * 9 + 0).toNat).toNat = T (N (23 + f * 9 + 0).toNat).toNat := by omega
      rw [if_pos q, ← e]
      exact d2
theorem by_tA {N : Nat → Int} (hW : okW N) {i m j : Int} (hi : 0 ≤ i ∧ i < 8) (hm : 0 ≤ m ∧ m ≤ 1439) (hj : 0 ≤ j ∧ j < 8) (hne : j ≠ i) : byF N (tA N i m) j (N 0).toNat 0 (-1) = tA N i m j.toNat := by
  have hN := hW.1
  have hT := tA_ok hW (i := i) hm
  have hn : ∀ g : Int, 0 ≤ g → g < 0 + ((N 0).toNat : Int) → 1 ≤ (N (23 + g * 9 + 4).toNat) := fun g a b => (hW.2.2 g a (by omega)).1.2.2.1.1
  have hjn : j.toNat < 8 ∧ j.toNat ≠ i.toNat := by omega
  have c := eA_in hT (k := j.toNat) (by omega)
  have b1 : ∀ f : Int, 0 ≤ f → f < N 0 → (N (23 + f * 9 + 1).toNat).toNat = j.toNat → eA (tA N i m) j.toNat ≤ aSt N f (eA (tA N i m) (N (23 + f * 9 + 0).toNat).toNat) := (fArr_by hW (A := fun _ => 0) (i := i) hm hjn.1 hjn.2).1
  have up : ∀ g : Int, 0 ≤ g → g < N 0 → 0 ≤ byC N (tA N i m) j g → 0 ≤ tA N i m j.toNat ∧ tA N i m j.toNat ≤ byC N (tA N i m) j g + (N (23 + g * 9 + 4).toNat) := by
    intro g a b d
    have e := (byC_aSt hW hT (j := j) a b).1 d
    have e2 := b1 g a b (by rw [e.1])
    have e3 := (aQ_ok hW g a (by show g < ((N 0).toNat : Int); omega)).2.2.1 (eA (tA N i m) (N (23 + g * 9 + 0).toNat).toNat)
    have e3 : aSt N g (eA (tA N i m) (N (23 + g * 9 + 0).toNat).toNat) ≤ 1000000 := e3
    have hh := NL_in (m := tA N i m (N (23 + g * 9 + 0).toNat).toNat) (hW.2.2 g a b).1
    have h4 := (hW.2.2 g a b).1.2.2.1
    have hl : byC N (tA N i m) j g ≤ 1439 := by
      unfold byC
      split <;> omega
    omega
  obtain ⟨k1, k2, -⟩ := byF_P (T := tA N i m) (j := j) (N 0).toNat 0 (-1) hn
  have lo : byF N (tA N i m) j (N 0).toNat 0 (-1) = -1 ∨ (0 ≤ tA N i m j.toNat ∧ tA N i m j.toNat ≤ byF N (tA N i m) j (N 0).toNat 0 (-1)) := by
    rcases k1 with q | ⟨g, g1, g2, g3, g4⟩
    · exact Or.inl q
    · have u := up g g1 (by omega) g3
      exact Or.inr (by omega)
  clear k1
  rcases (fArr_by hW (A := fun _ => 0) (i := i) hm hjn.1 hjn.2).2 with r | ⟨f, f1, f2, f3, f4⟩
  · have r : tA N i m j.toNat = -1 := r
    omega
  · have f4 : tA N i m j.toNat = aSt N f (eA (tA N i m) (N (23 + f * 9 + 0).toNat).toNat) := f4
    obtain ⟨o1, o2, o3⟩ := hW.2.2 f f1 f2
    have e := byC_aSt hW hT (j := j) f1 f2
    have c9 := hT j.toNat hjn.1
    have d := e.2 (by omega) (by omega)
    have d2 := e.1 d
    have := k2 f f1 (by omega) d
    omega
/-! cheapest ways -/
theorem tb_mono {N : Nat → Int} {i m : Int} {c : Int → Int → Int} (hc : tblC N i m c) {k : Int} (hk : 0 ≤ k ∧ k < 8) {t : Int} (ht : m ≤ t) : ∀ n : Nat, t + n ≤ 1539 → c k (t + n) ≤ c k t := by
  intro n
  induction n with
  | zero => intro _; rw [show t + ((0 : Nat) : Int) = t by omega]; exact Int.le_refl _
  | succ n ih =>
    intro h
    have h1 := hc.2.1 k (t + ((n + 1 : Nat) : Int)) hk.1 hk.2 (by omega) (by omega)
    rw [show t + ((n + 1 : Nat) : Int) - 1 = t + (n : Int) by omega] at h1
    have := ih (by omega)
    omega
theorem tb_le {N : Nat → Int} {i m : Int} {c : Int → Int → Int} (hc : tblC N i m c) {k : Int} (hk : 0 ≤ k ∧ k < 8) {t u : Int} (ht : m ≤ t) (h : t ≤ u) (hu : u ≤ 1539) : c k u ≤ c k t := by
  have := tb_mono hc hk ht (u - t).toNat (by omega)
  rwa [show t + ((u - t).toNat : Int) = u by omega] at this
theorem tb_in {N : Nat → Int} (hW : okW N) {i m : Int} {c : Int → Int → Int} (hc : tblC N i m c) (hi : 0 ≤ i ∧ i < 8) (hm : 0 ≤ m ∧ m ≤ 1439) : ∀ (n : Nat) (k t : Int), 0 ≤ k ∧ k < 8 → m ≤ t → t - m ≤ n → t ≤ 1539 → c k t ≠ 1000000 → tA N i m k.toNat ≠ -1 ∧ tA N i m k.toNat ≤ t ∧ c k t ≤ 198 * (t - m) := by
  intro n
  induction n with
  | zero =>
    intro k t hk h1 h2 h3 h4
    have e : t = m := by omega
    subst e
    have h5 := hc.1 k hk.1 hk.2
    by_cases h6 : k = i
    · subst h6
      rw [if_pos rfl] at h5
      have := tA_at hW hk hm
      omega
    · rw [if_neg h6] at h5
      omega
  | succ n ih =>
    intro k t hk h1 h2 h3 h4
    by_cases e : t = m
    · exact ih k t hk h1 (by omega) h3 h4
    · rcases hc.2.2.2.1 k t hk.1 hk.2 (by omega) h3 with q | ⟨f, u, g0, g1, g2, g3, g4, g5, g6, g7⟩
      · rw [q] at h4 ⊢
        have := ih k (t - 1) hk (by omega) (by omega) (by omega) h4
        omega
      · obtain ⟨o1, o2, o3⟩ := hW.2.2 f g0 g1
        have k4 := o1.2.2.1
        have k5 := (PR_in (m := u) o1).2
        obtain ⟨r1, r2, r3⟩ := ih (N (23 + f * 9 + 0).toNat) u (by omega) g3 (by omega) (by omega) g6
        have hT := tA_ok hW (i := i) hm
        have c0 := eA_in hT (k := (N (23 + f * 9 + 0).toNat).toNat) (by omega)
        have c1 := eA_in hT (k := k.toNat) (by omega)
        have h5 := (fArr_P hW (A := fun _ => 0) (i := i) hm).1 f g0 (by show f < ((N 0).toNat : Int); omega)
        have h5 : eA (tA N i m) (N (23 + f * 9 + 1).toNat).toNat ≤ aSt N f (eA (tA N i m) (N (23 + f * 9 + 0).toNat).toNat) := h5
        rw [g2] at h5
        have h6 : aSt N f (eA (tA N i m) (N (23 + f * 9 + 0).toNat).toNat) ≤ u + (N (23 + f * 9 + 4).toNat) := by
          rcases aSt_e o1 (eA (tA N i m) (N (23 + f * 9 + 0).toNat).toNat) with ⟨-, -, a⟩ | ⟨-, -, -, a, -, b⟩
          · exact absurd g5 (a _ (by omega))
          · have := b u (by omega) g5
            omega
        omega
theorem tb_out {N : Nat → Int} (hW : okW N) {i m : Int} {c : Int → Int → Int} (hc : tblC N i m c) (hi : 0 ≤ i ∧ i < 8) (hm : 0 ≤ m ∧ m ≤ 1439) : ∀ (n k : Nat) (t : Int), k < 8 → Rc (aQ N) (aD0 i m) n k t → t ≤ 1539 → m ≤ t ∧ c (k : Int) t ≠ 1000000 := by
  intro n
  induction n with
  | zero =>
    intro k t hk h h1
    have h : t = aD0 i m k := h
    unfold aD0 at h
    by_cases h3 : k = i.toNat
    · rw [if_pos h3] at h
      subst h
      have h5 := hc.1 (k : Int) (by omega) (by omega)
      rw [if_pos (by omega)] at h5
      exact ⟨Int.le_refl _, by omega⟩
    · rw [if_neg h3] at h
      omega
  | succ n ih =>
    intro k t hk h h1
    obtain ⟨f, g0, g1, g2, t', g3, g4⟩ := h
    have g1' : f < ((N 0).toNat : Int) := g1
    have g2 : (N (23 + f * 9 + 1).toNat).toNat = k := g2
    have g4 : t = aSt N f t' := g4
    have g3 : Rc (aQ N) (aD0 i m) n (N (23 + f * 9 + 0).toNat).toNat t' := g3
    obtain ⟨o1, o2, o3⟩ := hW.2.2 f g0 (by omega)
    have k4 := o1.2.2.1
    rcases aSt_e o1 t' with ⟨-, d, -⟩ | ⟨d1, d2, d3, d4, d5, -⟩
    · omega
    · obtain ⟨r1, r2⟩ := ih _ t' (by omega) g3 (by omega)
      rw [show (((N (23 + f * 9 + 0).toNat).toNat : Nat) : Int) = (N (23 + f * 9 + 0).toNat) by omega] at r2
      have b1 := hc.2.2.2.2 (N (23 + f * 9 + 0).toNat) t' o2.1 o2.2 r1 (by omega)
      have b2 := tb_le hc o2 r1 d1 (by omega)
      have b3 := tb_in hW hc hi hm (NL N f t' - m).toNat (N (23 + f * 9 + 0).toNat) (NL N f t') o2 (by omega) (by omega) (by omega) (by omega)
      have b4 := hc.2.2.1 f (NL N f t') g0 (by omega) (by omega) d5 (by omega)
      have b5 := (PR_in (m := NL N f t') o1).2
      rw [show NL N f t' + (N (23 + f * 9 + 4).toNat) = t by omega] at b4
      rw [show (N (23 + f * 9 + 1).toNat) = (k : Int) by omega] at b4
      exact ⟨by omega, by omega⟩
theorem tb_iff {N : Nat → Int} (hW : okW N) {i m : Int} {c : Int → Int → Int} (hc : tblC N i m c) (hi : 0 ≤ i ∧ i < 8) (hm : 0 ≤ m ∧ m ≤ 1439) {k t : Int} (hk : 0 ≤ k ∧ k < 8) (ht : m ≤ t ∧ t ≤ 1539) : c k t ≠ 1000000 ↔ (tA N i m k.toNat ≠ -1 ∧ tA N i m k.toNat ≤ t) := by
  constructor
  · intro h
    have := tb_in hW hc hi hm (t - m).toNat k t hk ht.1 (by omega) ht.2 h
    exact ⟨this.1, this.2.1⟩
  · rintro ⟨h1, h2⟩
    have hT := tA_ok hW (i := i) hm
    have c1 := eA_in hT (k := k.toNat) (by omega)
    obtain ⟨n, hn⟩ := (fArr_P hW (A := fun _ => 0) (i := i) hm).2.2 k.toNat (by omega)
    have hn : Rc (aQ N) (aD0 i m) n k.toNat (eA (tA N i m) k.toNat) := hn
    have r := tb_out hW hc hi hm n k.toNat _ (by omega) hn (by omega)
    rw [show ((k.toNat : Nat) : Int) = k by omega] at r
    have b1 := hc.2.2.2.2 k (eA (tA N i m) k.toNat) hk.1 hk.2 r.1 (by omega)
    have b2 := tb_le hc hk r.1 (show eA (tA N i m) k.toNat ≤ t by omega) ht.2
    omega
/-- the coins that the class tells, by the table -/
def chp (N : Nat → Int) (i m j l : Int) : Int := unB (mPay N i m (fun _ => 0) (1540 * j + l).toNat)
theorem wFar_chp {N : Nat → Int} (hW : okW N) {i m j l : Int} (hi : 0 ≤ i ∧ i < 8) (hm : 0 ≤ m ∧ m ≤ 1439) (hj : 0 ≤ j ∧ j < 8) (hl : m ≤ l ∧ l ≤ 1539) {W : tWY} (hw : okWs W) : (wFar N i m l W).2.2.1 j.toNat = chp N i m j l :=
  fFar_c (RG_of hW) (mPay_tbl hW hi (by omega) (fun _ => 0)) hi hm.1 hl.1 hl.2 hw.1 hw.2.1 hw.2.2 hj
theorem chp_c {N : Nat → Int} (hW : okW N) {i m j l : Int} (hi : 0 ≤ i ∧ i < 8) (hm : 0 ≤ m ∧ m ≤ 1439) (hj : 0 ≤ j ∧ j < 8) (hl : m ≤ l ∧ l ≤ 1539) : (chp N i m j l = -1 ∧ mPay N i m (fun _ => 0) (1540 * j + l).toNat = 1000000) ∨ (0 ≤ chp N i m j l ∧ chp N i m j l ≤ 400000 ∧ chp N i m j l = mPay N i m (fun _ => 0) (1540 * j + l).toNat ∧ mPay N i m (fun _ => 0) (1540 * j + l).toNat ≠ 1000000) := by
  have hc := mPay_tbl hW hi (show 0 ≤ m ∧ m ≤ 1539 by omega) (fun _ => 0)
  have b := hc.2.2.2.2 j l hj.1 hj.2 hl.1 hl.2
  try dsimp only at b
  unfold chp unB
  by_cases h : mPay N i m (fun _ => 0) (1540 * j + l).toNat = 1000000
  · exact Or.inl ⟨if_pos h, h⟩
  · have := (tb_in hW hc hi hm (l - m).toNat j l hj hl.1 (by omega) hl.2 h).2.2
    try dsimp only at this
    rw [if_neg h]
    exact Or.inr ⟨by omega, by omega, rfl, h⟩
theorem chp_iff {N : Nat → Int} (hW : okW N) {i m j l : Int} (hi : 0 ≤ i ∧ i < 8) (hm : 0 ≤ m ∧ m ≤ 1439) (hj : 0 ≤ j ∧ j < 8) (hl : m ≤ l ∧ l ≤ 1539) : 0 ≤ chp N i m j l ↔ (0 ≤ tA N i m j.toNat ∧ tA N i m j.toNat ≤ l) := by
  have hc := mPay_tbl hW hi (show 0 ≤ m ∧ m ≤ 1539 by omega) (fun _ => 0)
  have h := tb_iff hW hc hi hm hj hl
  try dsimp only at h
  have hT := tA_ok hW (i := i) hm j.toNat (by omega)
  rcases chp_c hW hi hm hj hl with ⟨a, b⟩ | ⟨a, a2, a3, b⟩
  · rw [b] at h
    constructor
    · intro q; omega
    · intro q
      exact absurd rfl (h.mpr ⟨by omega, q.2⟩)
  · have := h.mp b
    constructor
    · intro _; omega
    · intro _; exact a
theorem chp_self {N : Nat → Int} (hW : okW N) {i m l : Int} (hi : 0 ≤ i ∧ i < 8) (hm : 0 ≤ m ∧ m ≤ 1439) (hl : m ≤ l ∧ l ≤ 1539) : chp N i m i l = 0 := by
  have hc := mPay_tbl hW hi (show 0 ≤ m ∧ m ≤ 1539 by omega) (fun _ => 0)
  have h1 := hc.1 i hi.1 hi.2
  rw [if_pos rfl] at h1
  have h2 := tb_le hc hi (Int.le_refl m) hl.1 hl.2
  have h3 := hc.2.2.2.2 i l hi.1 hi.2 hl.1 hl.2
  try dsimp only at h1 h2 h3
  rcases chp_c hW hi hm hi hl with ⟨a, b⟩ | ⟨a, a2, a3, b⟩ <;> omega
theorem chp_later {N : Nat → Int} (hW : okW N) {i m j l : Int} (hi : 0 ≤ i ∧ i < 8) (hm : 0 ≤ m ∧ m ≤ 1439) (hj : 0 ≤ j ∧ j < 8) (hl : m ≤ l ∧ l ≤ 1539) (h : 0 ≤ chp N i m j l) : 0 ≤ chp N i m j 1539 ∧ chp N i m j 1539 ≤ chp N i m j l := by
  have hc := mPay_tbl hW hi (show 0 ≤ m ∧ m ≤ 1539 by omega) (fun _ => 0)
  have h2 := tb_le hc hj hl.1 hl.2 (Int.le_refl _)
  have h3 := hc.2.2.2.2 j l hj.1 hj.2 hl.1 hl.2
  try dsimp only at h2 h3
  rcases chp_c hW hi hm hj hl with ⟨a, b⟩ | ⟨a, a2, a3, b⟩
  · omega
  · rcases chp_c hW hi hm hj (l := 1539) (by omega) with ⟨d, e⟩ | ⟨d, d2, d3, e⟩ <;> omega
theorem chp_direct {N : Nat → Int} (hW : okW N) {f m l : Int} (h0 : 0 ≤ f) (h1 : f < N 0) (hm : 0 ≤ m ∧ m ≤ 1439) (hl : m ≤ l ∧ l ≤ 1539) (h : 0 ≤ NL N f m) (h2 : NL N f m + (N (23 + f * 9 + 4).toNat) ≤ l) : 0 ≤ chp N (N (23 + f * 9 + 0).toNat) m (N (23 + f * 9 + 1).toNat) l ∧ chp N (N (23 + f * 9 + 0).toNat) m (N (23 + f * 9 + 1).toNat) l ≤ PR N f (NL N f m) := by
  obtain ⟨o1, o2, o3⟩ := hW.2.2 f h0 h1
  have k4 := o1.2.2.1
  have k5 := (PR_in (m := NL N f m) o1).2
  have hc := mPay_tbl hW o2 (show 0 ≤ m ∧ m ≤ 1539 by omega) (fun _ => 0)
  rcases NL_P o1 m with ⟨a, -⟩ | ⟨a, b, -⟩
  · omega
  · have hx := lvA_0 o1 b
    have e1 := hc.1 (N (23 + f * 9 + 0).toNat) o2.1 o2.2
    rw [if_pos rfl] at e1
    have e2 := tb_le hc o2 (Int.le_refl m) a (by omega)
    have e3 := hc.2.2.2.2 (N (23 + f * 9 + 0).toNat) (NL N f m) o2.1 o2.2 a (by omega)
    try dsimp only at e1 e2 e3
    have e4 := hc.2.2.1 f (NL N f m) h0 h1 a b (by dsimp only; omega)
    have e5 := tb_le hc o3 (show m ≤ NL N f m + (N (23 + f * 9 + 4).toNat) by omega) h2 hl.2
    try dsimp only at e4 e5
    rcases chp_c hW o2 hm o3 hl with ⟨a', b'⟩ | ⟨a', a2, a3, b'⟩ <;> omega
end EQK
