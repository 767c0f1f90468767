section EQR
/-! rounds of betterings over eight islands: how many there are, from where to where, and what each makes of a number -/
abbrev tRx : Type := Nat × (Int → Nat) × (Int → Nat) × (Int → Int → Int)
def rOK (q : tRx) : Prop := ∀ f : Int, 0 ≤ f → f < q.1 → (q.2.1 f < 8 ∧ q.2.2.1 f < 8) ∧ (∀ x y, x ≤ y → q.2.2.2 f x ≤ q.2.2.2 f y) ∧ (∀ x, q.2.2.2 f x ≤ 1000000) ∧ ∀ x, q.2.2.2 f x < 1000000 → x < q.2.2.2 f x
def rS (q : tRx) (f : Int) (D : Nat → Int) : Nat → Int := if q.2.2.2 f (D (q.2.1 f)) < D (q.2.2.1 f) then su D (q.2.2.1 f) (q.2.2.2 f (D (q.2.1 f))) else D
def rIn (q : tRx) (n : Nat) (f : Int) (D : Nat → Int) : Nat → Int := match n with
  | 0 => D
  | n + 1 => rIn q n (f + 1) (rS q f D)
def rR (q : tRx) (j : Nat) (D : Nat → Int) : Nat → Int := match j with
  | 0 => D
  | j + 1 => rR q j (rIn q q.1 0 D)
def Rc (q : tRx) (D0 : Nat → Int) (n : Nat) (i : Nat) (t : Int) : Prop := match n with
  | 0 => t = D0 i
  | n + 1 => ∃ f : Int, 0 ≤ f ∧ f < q.1 ∧ q.2.2.1 f = i ∧ ∃ t', Rc q D0 n (q.2.1 f) t' ∧ t = q.2.2.2 f t'
def rCl (q : tRx) (D : Nat → Int) : Prop := ∀ f : Int, 0 ≤ f → f < q.1 → D (q.2.2.1 f) ≤ q.2.2.2 f (D (q.2.1 f))
def rSd (q : tRx) (D0 D : Nat → Int) : Prop := ∀ i : Nat, i < 8 → ∃ n, Rc q D0 n i (D i)
def rLe (D D' : Nat → Int) : Prop := ∀ i : Nat, i < 8 → D i ≤ D' i
theorem rS_le (q : tRx) (f : Int) (D : Nat → Int) (i : Nat) : rS q f D i ≤ D i := by
  unfold rS
  split
  · unfold su
    split
    · rename_i h h2
      subst h2
      exact Int.le_of_lt h
    · exact Int.le_refl _
  · exact Int.le_refl _
theorem rS_at (q : tRx) (f : Int) (D : Nat → Int) : rS q f D (q.2.2.1 f) ≤ q.2.2.2 f (D (q.2.1 f)) := by
  unfold rS
  split
  · rw [su_s]; exact Int.le_refl _
  · rename_i h
    exact Int.not_lt.mp h
theorem rS_sd {q : tRx} (hq : rOK q) {D0 D : Nat → Int} {f : Int} (h0 : 0 ≤ f) (h1 : f < q.1) (h : rSd q D0 D) : rSd q D0 (rS q f D) := by
  unfold rS
  split
  · intro i hi
    by_cases h2 : i = q.2.2.1 f
    · subst h2
      obtain ⟨n, hn⟩ := h (q.2.1 f) (hq f h0 h1).1.1
      rw [su_s]
      exact ⟨n + 1, f, h0, h1, rfl, _, hn, rfl⟩
    · rw [su_n h2]
      exact h i hi
  · exact h
theorem rIn_le (q : tRx) : ∀ (n : Nat) (f : Int) (D : Nat → Int) (i : Nat), rIn q n f D i ≤ D i := by
  intro n
  induction n with
  | zero => intro f D i; exact Int.le_refl _
  | succ n ih =>
    intro f D i
    exact Int.le_trans (ih (f + 1) (rS q f D) i) (rS_le q f D i)
theorem rIn_at {q : tRx} (hq : rOK q) : ∀ (n : Nat) (f : Int) (D : Nat → Int), f + n ≤ q.1 → 0 ≤ f → ∀ g : Int, f ≤ g → g < f + n → rIn q n f D (q.2.2.1 g) ≤ q.2.2.2 g (D (q.2.1 g)) := by
  intro n
  induction n with
  | zero => intro f D _ _ g h1 h2; omega
  | succ n ih =>
    intro f D h1 h2 g h3 h4
    unfold rIn
    by_cases h5 : f = g
    · subst h5
      exact Int.le_trans (rIn_le q n (f + 1) (rS q f D) _) (rS_at q f D)
    · refine Int.le_trans (ih (f + 1) (rS q f D) (by omega) (by omega) g (by omega) (by omega)) ?_
      exact (hq g (by omega) (by omega)).2.1 _ _ (rS_le q f D _)
theorem rIn_sd {q : tRx} (hq : rOK q) {D0 : Nat → Int} : ∀ (n : Nat) (f : Int) (D : Nat → Int), f + n ≤ q.1 → 0 ≤ f → rSd q D0 D → rSd q D0 (rIn q n f D) := by
  intro n
  induction n with
  | zero => intro f D _ _ h; exact h
  | succ n ih =>
    intro f D h1 h2 h3
    exact ih (f + 1) _ (by omega) (by omega) (rS_sd hq h2 (by omega) h3)
theorem rR_last (q : tRx) : ∀ (j : Nat) (D : Nat → Int), rR q (j + 1) D = rIn q q.1 0 (rR q j D) := by
  intro j
  induction j with
  | zero => intro D; rfl
  | succ j ih => intro D; exact ih (rIn q q.1 0 D)
theorem rR_le (q : tRx) : ∀ (j : Nat) (D : Nat → Int) (i : Nat), rR q j D i ≤ D i := by
  intro j
  induction j with
  | zero => intro D i; exact Int.le_refl _
  | succ j ih => intro D i; exact Int.le_trans (ih _ i) (rIn_le q q.1 0 D i)
theorem rR_sd {q : tRx} (hq : rOK q) {D0 : Nat → Int} : ∀ (j : Nat) (D : Nat → Int), rSd q D0 D → rSd q D0 (rR q j D) := by
  intro j
  induction j with
  | zero => intro D h; exact h
  | succ j ih => intro D h; exact ih _ (rIn_sd hq q.1 0 D (by omega) (by omega) h)
theorem rMin {q : tRx} (hq : rOK q) {D0 D : Nat → Int} (hc : rCl q D) (hl : rLe D D0) : ∀ (n i : Nat) (t : Int), i < 8 → Rc q D0 n i t → D i ≤ t := by
  intro n
  induction n with
  | zero =>
    intro i t hi h
    have h : t = D0 i := h
    rw [h]
    exact hl i hi
  | succ n ih =>
    intro i t hi h
    obtain ⟨f, h0, h1, h2, t', h3, h4⟩ := h
    subst h2
    rw [h4]
    have k := hq f h0 h1
    exact Int.le_trans (hc f h0 h1) (k.2.1 _ _ (ih _ _ k.1.1 h3))
theorem rUniq {q : tRx} (hq : rOK q) {D0 D D' : Nat → Int} (hc : rCl q D) (hl : rLe D D0) (hs : rSd q D0 D) (hc' : rCl q D') (hl' : rLe D' D0) (hs' : rSd q D0 D') : ∀ i : Nat, i < 8 → D i = D' i := by
  intro i hi
  obtain ⟨n, hn⟩ := hs i hi
  obtain ⟨n', hn'⟩ := hs' i hi
  have := rMin hq hc hl n' i _ hi hn'
  have := rMin hq hc' hl' n i _ hi hn
  omega
/-- how many are less -/
def cntL (D : Nat → Int) (n : Nat) (v : Int) : Nat := match n with
  | 0 => 0
  | n + 1 => cntL D n v + (if D n < v then 1 else 0)
theorem cntL_le (D : Nat → Int) (v : Int) : ∀ n : Nat, cntL D n v ≤ n := by
  intro n
  induction n with
  | zero => exact Nat.le_refl _
  | succ n ih => unfold cntL; split <;> omega
theorem cntL_mono (D : Nat → Int) {v w : Int} (h : v ≤ w) : ∀ n : Nat, cntL D n v ≤ cntL D n w := by
  intro n
  induction n with
  | zero => exact Nat.le_refl _
  | succ n ih =>
    unfold cntL
    by_cases h1 : D n < v
    · rw [if_pos h1, if_pos (show D n < w by omega)]; omega
    · rw [if_neg h1]; split <;> omega
theorem cntL_lt (D : Nat → Int) {v w : Int} (h : v ≤ w) {j : Nat} (h1 : v ≤ D j) (h2 : D j < w) : ∀ n : Nat, j < n → cntL D n v < cntL D n w := by
  intro n
  induction n with
  | zero => intro h3; omega
  | succ n ih =>
    intro h3
    unfold cntL
    by_cases h4 : j = n
    · subst h4
      have := cntL_mono D h j
      rw [if_neg (show ¬ D j < v by omega), if_pos h2]
      omega
    · have := ih (by omega)
      by_cases h5 : D n < v
      · rw [if_pos h5, if_pos (show D n < w by omega)]; omega
      · rw [if_neg h5]; split <;> omega
theorem rFord {q : tRx} (hq : rOK q) {D0 E : Nat → Int} (h0 : ∀ i : Nat, i < 8 → D0 i ≤ 1000000) (hc : rCl q E) (hl : rLe E D0) (hs : rSd q D0 E) : ∀ (k i : Nat), i < 8 → cntL E 8 (E i) ≤ k → rR q k D0 i ≤ E i := by
  have key : ∀ i : Nat, i < 8 → E i = D0 i ∨ 1000000 ≤ E i ∨ ∃ f : Int, 0 ≤ f ∧ f < q.1 ∧ q.2.2.1 f = i ∧ E i = q.2.2.2 f (E (q.2.1 f)) ∧ E (q.2.1 f) < E i := by
    intro i hi
    obtain ⟨n, hn⟩ := hs i hi
    match n, hn with
    | 0, hn => exact Or.inl hn
    | n + 1, hn =>
      obtain ⟨f, g0, g1, g2, t', g3, g4⟩ := hn
      by_cases h1 : 1000000 ≤ E i
      · exact Or.inr (Or.inl h1)
      · have k := hq f g0 g1
        have h2 := rMin hq hc hl n _ _ k.1.1 g3
        have h3 := k.2.1 _ _ h2
        have h4 := hc f g0 g1
        rw [g2] at h4
        have h5 : E i = q.2.2.2 f (E (q.2.1 f)) := by omega
        exact Or.inr (Or.inr ⟨f, g0, g1, g2, h5, by rw [h5]; exact k.2.2.2 _ (by omega)⟩)
  intro k
  induction k with
  | zero =>
    intro i hi h
    have e0 : rR q 0 D0 i = D0 i := rfl
    rw [e0]
    rcases key i hi with h1 | h1 | ⟨f, g0, g1, g2, g3, g4⟩
    · omega
    · have := h0 i hi; omega
    · have := cntL_lt E (Int.le_of_lt g4) (Int.le_refl _) g4 8 (hq f g0 g1).1.1
      omega
  | succ k ih =>
    intro i hi h
    rcases key i hi with h1 | h1 | ⟨f, g0, g1, g2, g3, g4⟩
    · rw [h1]; exact rR_le q _ D0 i
    · have := rR_le q (k + 1) D0 i
      have := h0 i hi
      omega
    · have h2 := cntL_lt E (Int.le_of_lt g4) (Int.le_refl _) g4 8 (hq f g0 g1).1.1
      have h3 := ih _ (hq f g0 g1).1.1 (by omega)
      rw [rR_last]
      have h4 := rIn_at hq q.1 0 (rR q k D0) (by omega) (by omega) f g0 (by omega)
      rw [g2] at h4
      have h5 := (hq f g0 g1).2.1 _ _ h3
      omega
theorem rSd_0 (q : tRx) (D : Nat → Int) : rSd q D D := fun _ _ => ⟨0, rfl⟩
theorem rSeven {q : tRx} (hq : rOK q) {D0 E : Nat → Int} (h0 : ∀ i : Nat, i < 8 → D0 i ≤ 1000000) (hc : rCl q E) (hl : rLe E D0) (hs : rSd q D0 E) : ∀ i : Nat, i < 8 → rR q 7 D0 i = E i := by
  intro i hi
  have h1 := cntL_lt E (v := E i) (w := E i + 1) (by omega) (j := i) (Int.le_refl _) (by omega) 8 hi
  have h2 := cntL_le E (E i + 1) 8
  have h3 := rFord hq h0 hc hl hs 7 i hi (by omega)
  obtain ⟨n, hn⟩ := rR_sd hq 7 D0 (rSd_0 q D0) i hi
  have h4 := rMin hq hc hl n i _ hi hn
  omega
theorem Rc_cong {q : tRx} (hq : rOK q) {D0 D1 : Nat → Int} (h : ∀ i : Nat, i < 8 → D0 i = D1 i) : ∀ (n i : Nat) (t : Int), i < 8 → Rc q D0 n i t → Rc q D1 n i t := by
  intro n
  induction n with
  | zero =>
    intro i t hi g
    have g : t = D0 i := g
    rw [h i hi] at g
    exact g
  | succ n ih =>
    intro i t hi g
    obtain ⟨f, g0, g1, g2, t', g3, g4⟩ := g
    exact ⟨f, g0, g1, g2, t', ih _ _ (hq f g0 g1).1.1 g3, g4⟩
theorem rSd_cong {q : tRx} (hq : rOK q) {D0 D1 D : Nat → Int} (h : ∀ i : Nat, i < 8 → D0 i = D1 i) (hs : rSd q D0 D) : rSd q D1 D := fun i hi => by
  obtain ⟨n, hn⟩ := hs i hi
  exact ⟨n, Rc_cong hq h n i _ hi hn⟩
/-- where each number comes from, in the end -/
theorem rKey {q : tRx} (hq : rOK q) {D0 E : Nat → Int} (hc : rCl q E) (hl : rLe E D0) (hs : rSd q D0 E) : ∀ i : Nat, i < 8 → E i = D0 i ∨ 1000000 ≤ E i ∨ ∃ f : Int, 0 ≤ f ∧ f < q.1 ∧ q.2.2.1 f = i ∧ E i = q.2.2.2 f (E (q.2.1 f)) := by
  intro i hi
  obtain ⟨n, hn⟩ := hs i hi
  match n, hn with
  | 0, hn => exact Or.inl hn
  | n + 1, hn =>
    obtain ⟨f, g0, g1, g2, t', g3, g4⟩ := hn
    by_cases h1 : 1000000 ≤ E i
    · exact Or.inr (Or.inl h1)
    · have k := hq f g0 g1
      have h2 := rMin hq hc hl n _ _ k.1.1 g3
      have h3 := k.2.1 _ _ h2
      have h4 := hc f g0 g1
      rw [g2] at h4
      have h5 : E i = q.2.2.2 f (E (q.2.1 f)) := by omega
      exact Or.inr (Or.inr ⟨f, g0, g1, g2, h5⟩)
theorem Rc_lo {q : tRx} (hq : rOK q) {D0 : Nat → Int} {lo : Int} (h0 : ∀ i : Nat, i < 8 → lo ≤ D0 i) (hlo : lo ≤ 1000000) : ∀ (n i : Nat) (t : Int), i < 8 → Rc q D0 n i t → lo ≤ t := by
  intro n
  induction n with
  | zero =>
    intro i t hi h
    have h : t = D0 i := h
    rw [h]
    exact h0 i hi
  | succ n ih =>
    intro i t hi h
    obtain ⟨f, g0, g1, g2, t', g3, g4⟩ := h
    have k := hq f g0 g1
    have h1 := ih _ _ k.1.1 g3
    by_cases h2 : q.2.2.2 f t' < 1000000
    · have := k.2.2.2 t' h2
      omega
    · omega
def sum8 (lo : Int) (D : Nat → Int) : Nat := (D 0 - lo).toNat + (D 1 - lo).toNat + (D 2 - lo).toNat + (D 3 - lo).toNat + (D 4 - lo).toNat + (D 5 - lo).toNat + (D 6 - lo).toNat + (D 7 - lo).toNat
theorem sum8_lt {lo v : Int} {D : Nat → Int} {j : Nat} (hj : j < 8) (h1 : lo ≤ v) (h2 : v < D j) : sum8 lo (su D j v) + 1 ≤ sum8 lo D := by
  unfold sum8
  rcases (show j = 0 ∨ j = 1 ∨ j = 2 ∨ j = 3 ∨ j = 4 ∨ j = 5 ∨ j = 6 ∨ j = 7 by omega) with rfl | rfl | rfl | rfl | rfl | rfl | rfl | rfl
  · show (v - lo).toNat + (D 1 - lo).toNat + (D 2 - lo).toNat + (D 3 - lo).toNat + (D 4 - lo).toNat + (D 5 - lo).toNat + (D 6 - lo).toNat + (D 7 - lo).toNat + 1 ≤ (D 0 - lo).toNat + (D 1 - lo).toNat + (D 2 - lo).toNat + (D 3 - lo).toNat + (D 4 - lo).toNat + (D 5 - lo).toNat + (D 6 - lo).toNat + (D 7 - lo).toNat
    omega
  · show (D 0 - lo).toNat + (v - lo).toNat + (D 2 - lo).toNat + (D 3 - lo).toNat + (D 4 - lo).toNat + (D 5 - lo).toNat + (D 6 - lo).toNat + (D 7 - lo).toNat + 1 ≤ (D 0 - lo).toNat + (D 1 - lo).toNat + (D 2 - lo).toNat + (D 3 - lo).toNat + (D 4 - lo).toNat + (D 5 - lo).toNat + (D 6 - lo).toNat + (D 7 - lo).toNat
    omega
  · show (D 0 - lo).toNat + (D 1 - lo).toNat + (v - lo).toNat + (D 3 - lo).toNat + (D 4 - lo).toNat + (D 5 - lo).toNat + (D 6 - lo).toNat + (D 7 - lo).toNat + 1 ≤ (D 0 - lo).toNat + (D 1 - lo).toNat + (D 2 - lo).toNat + (D 3 - lo).toNat + (D 4 - lo).toNat + (D 5 - lo).toNat + (D 6 - lo).toNat + (D 7 - lo).toNat
    omega
  · show (D 0 - lo).toNat + (D 1 - lo).toNat + (D 2 - lo).toNat + (v - lo).toNat + (D 4 - lo).toNat + (D 5 - lo).toNat + (D 6 - lo).toNat + (D 7 - lo).toNat + 1 ≤ (D 0 - lo).toNat + (D 1 - lo).toNat + (D 2 - lo).toNat + (D 3 - lo).toNat + (D 4 - lo).toNat + (D 5 - lo).toNat + (D 6 - lo).toNat + (D 7 - lo).toNat
    omega
  · show (D 0 - lo).toNat + (D 1 - lo).toNat + (D 2 - lo).toNat + (D 3 - lo).toNat + (v - lo).toNat + (D 5 - lo).toNat + (D 6 - lo).toNat + (D 7 - lo).toNat + 1 ≤ (D 0 - lo).toNat + (D 1 - lo).toNat + (D 2 - lo).toNat + (D 3 - lo).toNat + (D 4 - lo).toNat + (D 5 - lo).toNat + (D 6 - lo).toNat + (D 7 - lo).toNat
    omega
  · show (D 0 - lo).toNat + (D 1 - lo).toNat + (D 2 - lo).toNat + (D 3 - lo).toNat + (D 4 - lo).toNat + (v - lo).toNat + (D 6 - lo).toNat + (D 7 - lo).toNat + 1 ≤ (D 0 - lo).toNat + (D 1 - lo).toNat + (D 2 - lo).toNat + (D 3 - lo).toNat + (D 4 - lo).toNat + (D 5 - lo).toNat + (D 6 - lo).toNat + (D 7 - lo).toNat
    omega
  · show (D 0 - lo).toNat + (D 1 - lo).toNat + (D 2 - lo).toNat + (D 3 - lo).toNat + (D 4 - lo).toNat + (D 5 - lo).toNat + (v - lo).toNat + (D 7 - lo).toNat + 1 ≤ (D 0 - lo).toNat + (D 1 - lo).toNat + (D 2 - lo).toNat + (D 3 - lo).toNat + (D 4 - lo).toNat + (D 5 - lo).toNat + (D 6 - lo).toNat + (D 7 - lo).toNat
    omega
  · show (D 0 - lo).toNat + (D 1 - lo).toNat + (D 2 - lo).toNat + (D 3 - lo).toNat + (D 4 - lo).toNat + (D 5 - lo).toNat + (D 6 - lo).toNat + (v - lo).toNat + 1 ≤ (D 0 - lo).toNat + (D 1 - lo).toNat + (D 2 - lo).toNat + (D 3 - lo).toNat + (D 4 - lo).toNat + (D 5 - lo).toNat + (D 6 - lo).toNat + (D 7 - lo).toNat
    omega
/-- an end of the rounds -/
theorem rEx {q : tRx} (hq : rOK q) {D0 : Nat → Int} {lo : Int} (h0 : ∀ i : Nat, i < 8 → lo ≤ D0 i) (hlo : lo ≤ 1000000) : ∃ E : Nat → Int, rCl q E ∧ rLe E D0 ∧ rSd q D0 E := by
  have key : ∀ (k : Nat) (D : Nat → Int), sum8 lo D ≤ k → rLe D D0 → rSd q D0 D → ∃ E : Nat → Int, rCl q E ∧ rLe E D0 ∧ rSd q D0 E := by
    intro k
    induction k with
    | zero =>
      intro D h1 h2 h3
      refine ⟨D, fun f g0 g1 => Classical.byContradiction fun h4 => ?_, h2, h3⟩
      have h5 := (hq f g0 g1).1
      have h6 := rS_sd hq g0 g1 h3
      have h7 := rS_at q f D
      obtain ⟨n, hn⟩ := h6 (q.2.2.1 f) h5.2
      have h8 := Rc_lo hq h0 hlo n _ _ h5.2 hn
      have h9 := sum8_lt (lo := lo) (v := q.2.2.2 f (D (q.2.1 f))) (D := D) h5.2 (by omega) (by omega)
      omega
    | succ k ih =>
      intro D h1 h2 h3
      by_cases hc : rCl q D
      · exact ⟨D, hc, h2, h3⟩
      · have hc' : ∃ f : Int, 0 ≤ f ∧ f < q.1 ∧ ¬ D (q.2.2.1 f) ≤ q.2.2.2 f (D (q.2.1 f)) := Classical.byContradiction fun h => hc (fun f g0 g1 => Classical.byContradiction fun h4 => h ⟨f, g0, g1, h4⟩)
        obtain ⟨f, g0, g1, h4⟩ := hc'
        have h5 := (hq f g0 g1).1
        have h6 := rS_sd hq g0 g1 h3
        have h7 := rS_at q f D
        obtain ⟨n, hn⟩ := h6 (q.2.2.1 f) h5.2
        have h8 := Rc_lo hq h0 hlo n _ _ h5.2 hn
        have h9 := sum8_lt (lo := lo) (v := q.2.2.2 f (D (q.2.1 f))) (D := D) h5.2 (by omega) (by omega)
        have e : rS q f D = su D (q.2.2.1 f) (q.2.2.2 f (D (q.2.1 f))) := by
          unfold rS
          exact if_pos (by omega)
        refine ih (rS q f D) (by rw [e]; omega) (fun i hi => Int.le_trans (rS_le q f D i) (h2 i hi)) h6
  exact key (sum8 lo D0) D0 (Nat.le_refl _) (fun i _ => Int.le_refl _) (rSd_0 q D0)
/-- the seven rounds reach it -/
theorem rEnd {q : tRx} (hq : rOK q) {D0 : Nat → Int} {lo : Int} (h0 : ∀ i : Nat, i < 8 → lo ≤ D0 i ∧ D0 i ≤ 1000000) (hlo : lo ≤ 1000000) : rCl q (rR q 7 D0) ∧ rLe (rR q 7 D0) D0 ∧ rSd q D0 (rR q 7 D0) := by
  obtain ⟨E, h1, h2, h3⟩ := rEx hq (fun i hi => (h0 i hi).1) hlo
  have h4 := rSeven hq (fun i hi => (h0 i hi).2) h1 h2 h3
  refine ⟨fun f g0 g1 => ?_, fun i _ => rR_le q 7 D0 i, rR_sd hq 7 D0 (rSd_0 q D0)⟩
  have k := (hq f g0 g1).1
  rw [h4 _ k.1, h4 _ k.2]
  exact h1 f g0 g1
end EQR
