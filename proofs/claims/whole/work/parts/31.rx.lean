section EQR
/-! rounds of betterings over eight islands: how many there are, from where to where, and what each makes of a number -/
abbrev tRx : Type := Nat × (Int → Nat) × (Int → Nat) × (Int → Int → Int)
def rOK (q : tRx) : Prop := ∀ f : Int, 0 ≤ f → f < q.1 → (q.2.1 f < 8 ∧ q.2.2.1 f < 8) ∧ (∀ x y, x ≤ y → q.2.2.2 f x ≤ q.2.2.2 f y) ∧ (∀ x, q.2.2.2 f x ≤ 1000000) ∧ ∀ x, q.2.2.2 f x < 1000000 → x < q.2.2.2 f x
def rS (q : tRx) (f : Int) (D : Nat → Int) : Nat → Int := if q.2.2.2 f (D (q.2.1 f)) < D (q.2.2.1 f) then su D (q.2.2.1 f) (q.2.2.2 f (D (q.2.1 f))) else D
def rIn (q : tRx) (n : Nat) (f : Int) (D : Nat → Int) : Nat → Int := match n with
  | 0 => D
  | n + 1 => rIn q n (f + 1) (rS q f D)
def rR (q : tRx) (j : Nat) (D : Nat → Int) : Nat → Int := match j with
  | 0 => D
  | j + 1 => rR q j (rIn q q.1 0 D)
def Rc (q : tRx) (D0 : Nat → Int) (n : Nat) (i : Nat) (t : Int) : Prop := match n with
  | 0 => t = D0 i
  | n + 1 => ∃ f : Int, 0 ≤ f ∧ f < q.1 ∧ q.2.2.1 f = i ∧ ∃ t', Rc q D0 n (q.2.1 f) t' ∧ t = q.2.2.2 f t'
def rCl (q : tRx) (D : Nat → Int) : Prop := ∀ f : Int, 0 ≤ f → f < q.1 → D (q.2.2.1 f) ≤ q.2.2.2 f (D (q.2.1 f))
def rSd (q : tRx) (D0 D : Nat → Int) : Prop := ∀ i : Nat, i < 8 → ∃ n, Rc q D0 n i (D i)
def rLe (D D' : Nat → Int) : Prop := ∀ i : Nat, i < 8 → D i ≤ D' i
theorem rS_le (q : tRx) (f : Int) (D : Nat → Int) (i : Nat) : rS q f D i ≤ D i := by
  unfold rS
  split
  · unfold su
    split
    · rename_i h h2
      subst h2
      exact Int.le_of_lt h
    · exact Int.le_refl _
  · exact Int.le_refl _
theorem rS_at (q : tRx) (f : Int) (D : Nat → Int) : rS q f D (q.2.2.1 f) ≤ q.2.2.2 f (D (q.2.1 f)) := by
  unfold rS
  split
  · rw [su_s]; exact Int.le_refl _
  · rename_i h
    exact Int.not_lt.mp h
theorem rS_sd {q : tRx} (hq : rOK q) {D0 D : Nat → Int} {f : Int} (h0 : 0 ≤ f) (h1 : f < q.1) (h : rSd q D0 D) : rSd q D0 (rS q f D) := by
  unfold rS
  split
  · intro i hi
    by_cases h2 : i = q.2.2.1 f
    · subst h2
      obtain ⟨n, hn⟩ := h (q.2.1 f) (hq f h0 h1).1.1
      rw [su_s]
      exact ⟨n + 1, f, h0, h1, rfl, _, hn, rfl⟩
    · rw [su_n h2]
      exact h i hi
  · exact h
theorem rIn_le (q : tRx) : ∀ (n : Nat) (f : Int) (D : Nat → Int) (i : Nat), rIn q n f D i ≤ D i := by
  intro n
  induction n with
  | zero => intro f D i; exact Int.le_refl _
  | succ n ih =>
    intro f D i
    exact Int.le_trans (ih (f + 1) (rS q f D) i) (rS_le q f D i)
theorem rIn_at {q : tRx} (hq : rOK q) : ∀ (n : Nat) (f : Int) (D : Nat → Int), f + n ≤ q.1 → 0 ≤ f → ∀ g : Int, f ≤ g → g < f + n → rIn q n f D (q.2.2.1 g) ≤ q.2.2.2 g (D (q.2.1 g)) := by
  intro n
  induction n with
  | zero => intro f D _ _ g h1 h2; omega
  | succ n ih =>
    intro f D h1 h2 g h3 h4
    unfold rIn
    by_cases h5 : f = g
    · subst h5
      exact Int.le_trans (rIn_le q n (f + 1) (rS q f D) _) (rS_at q f D)
    · refine Int.le_trans (ih (f + 1) (rS q f D) (by omega) (by omega) g (by omega) (by omega)) ?_
      exact (hq g (by omega) (by omega)).2.1 _ _ (rS_le q f D _)
theorem rIn_sd {q : tRx} (hq : rOK q) {D0 : Nat → Int} : ∀ (n : Nat) (f : Int) (D : Nat → Int), f + n ≤ q.1 → 0 ≤ f → rSd q D0 D → rSd q D0 (rIn q n f D) := by
  intro n
  induction n with
  | zero => intro f D _ _ h; exact h
  | succ n ih =>
    intro f D h1 h2 h3
    exact ih (f + 1) _ (by omega) (by omega) (rS_sd hq h2 (by omega) h3)
theorem rR_last (q : tRx) : ∀ (j : Nat) (D : Nat → Int), rR q (j + 1) D = rIn q q.1 0 (rR q j D) := by
  intro j
  induction j with
  | zero => intro D; rfl
  | succ j ih => intro D; exact ih (rIn q q.1 0 D)
theorem rR_le (q : tRx) : ∀ (j : Nat) (D : Nat → Int) (i : Nat), rR q j D i ≤ D i := by
  intro j
  induction j with
  | zero => intro D i; exact Int.le_refl _
  | succ j ih => intro D i; exact Int.le_trans (ih _ i) (rIn_le q q.1 0 D i)
theorem rR_sd {q : tRx} (hq : rOK q) {D0 : Nat → Int} : ∀ (j : Nat) (D : Nat → Int), rSd q D0 D → rSd q D0 (rR q j D) := by
  intro j
  induction j with
  | zero => intro D h; exact h
  | succ j ih => intro D h; exact ih _ (rIn_sd hq q.1 0 D (by omega) (by omega) h)
theorem rMin {q : tRx} (hq : rOK q) {D0 D : Nat → Int} (hc : rCl q D) (hl : rLe D D0) : ∀ (n i : Nat) (t : Int), i < 8 → Rc q D0 n i t → D i ≤ t := by
  intro n
  induction n with
  | zero =>
    intro i t hi h
    have h : t = D0 i := h
    rw [h]
    exact hl i hi
  | succ n ih =>
    intro i t hi h
    obtain ⟨f, h0, h1, h2, t', h3, h4⟩ := h
    subst h2
    rw [h4]
    have k := hq f h0 h1
    exact Int.le_trans (hc f h0 h1) (k.2.1 _ _ (ih _ _ k.1.1 h3))
theorem rUniq {q : tRx} (hq : rOK q) {D0 D D' : Nat → Int} (hc : rCl q D) (hl : rLe D D0) (hs : rSd q D0 D) (hc' : rCl q D') (hl' : rLe D' D0) (hs' : rSd q D0 D') : ∀ i : Nat, i < 8 → D i = D' i := by
  intro i hi
  obtain ⟨n, hn⟩ := hs i hi
  obtain ⟨n', hn'⟩ := hs' i hi
  have := rMin hq hc hl n' i _ hi hn'
  have := rMin hq hc' hl' n i _ hi hn
  omega
/-- how many are less -/
def cntL (D : Nat → Int) (n : Nat) (v : Int) : Nat := match n with
  | 0 => 0
  | n + 1 => cntL D n v + (if D n < v then 1 else 0)
theorem cntL_le (D : Nat → Int) (v : Int) : ∀ n : Nat, cntL D n v ≤ n := by
  intro n
  induction n with
  | zero => exact Nat.le_refl _
  | succ n ih => unfold cntL; split <;> omega
theorem cntL_mono (D : Nat → Int) {v w : Int} (h : v ≤ w) : ∀ n : Nat, cntL D n v ≤ cntL D n w := by
  intro n
  induction n with
  | zero => exact Nat.le_refl _
  | succ n ih =>
    unfold cntL
    by_cases h1 : D n < v
    · rw [if_pos h1, if_pos (show D n < w by omega)]; omega
    · rw [if_neg h1]; split <;> omega
theorem cntL_lt (D : Nat → Int) {v w : Int} (h : v ≤ w) {j : Nat} (h1 : v ≤ D j) (h2 : D j < w) : ∀ n : Nat, j < n → cntL D n v < cntL D n w := by
  intro n
  induction n with
  | zero => intro h3; omega
  | succ n ih =>
    intro h3
    unfold cntL
    by_cases h4 : j = n
    · subst h4
      have := cntL_mono D h j
      rw [if_neg (show ¬ D j < v by omega), if_pos h2]
      omega
    · have := ih (by omega)
      by_cases h5 : D n < v
      · rw [if_pos h5, if_pos (show D n < w by omega)]; omega
      · rw [if_neg h5]; split <;> omega
theorem rFord {q : tRx} (hq : rOK q) {D0 E : Nat → Int} (h0 : ∀ i : Nat, i < 8 → D0 i ≤ 1000000) (hc : rCl q E) (hl : rLe E D0) (hs : rSd q D0 E) : ∀ (k i : Nat), i < 8 → cntL E 8 (E i) ≤ k → rR q k D0 i ≤ E i := by
  have key : ∀ i : Nat, i < 8 → E i = D0 i ∨ 1000000 ≤ E i ∨ ∃ f : Int, 0 ≤ f ∧ f < q.1 ∧ q.2.2.1 f = i ∧ E i = q.2.2.2 f (E (q.2.1 f)) ∧ E (q.2.1 f) < E i := by
    intro i hi
    obtain ⟨n, hn⟩ := hs i hi
    match n, hn with
    | 0, hn => exact Or.inl hn
    | n + 1, hn =>
      obtain ⟨f, g0, g1, g2, t', g3, g4⟩ := hn
      by_cases h1 : 1000000 ≤ E i
      · exact Or.inr (Or.inl h1)
      · have k := hq f g0 g1
        have h2 := rMin hq hc hl n _ _ k.1.1 g3
        have h3 := k.2.1 _ _ h2
        have h4 := hc f g0 g1
        rw [g2] at h4
        have h5 : E i = q.2.2.2 f (E (q.2.1 f)) := by omega
        exact Or.inr (Or.inr ⟨f, g0, g1, g2, h5, by rw [h5]; exact k.2.2.2 _ (by omega)⟩)
  intro k
  induction k with
  | zero =>
    intro i hi h
    have e0 : rR q 0 D0 i = D0 i := rfl
    rw [e0]
    rcases key i hi with h1 | h1 | ⟨f, g0, g1, g2, g3, g4⟩
    · omega
    · have := h0 i hi; omega
    · have := cntL_lt E (Int.le_of_lt g4) (Int.le_refl _) g4 8 (hq f g0 g1).1.1
      omega
  | succ k ih =>
    intro i hi h
    rcases key i hi with h1 | h1 | ⟨f, g0, g1, g2, g3, g4⟩
    · rw [h1]; exact rR_le q _ D0 i
    · have := rR_le q (k + 1) D0 i
      have := h0 i hi
      omega
    · have h2 := cntL_lt E (Int.le_of_lt g4) (Int.le_refl _) g4 8 (hq f g0 g1).1.1
      have h3 := ih _ (hq f g0 g1).1.1 (by omega)
      rw [rR_last]
      have h4 := rIn_at hq q.1 0 (rR q k D0) (by omega) (by omega) f g0 (by omega)
      rw [g2] at h4
      have h5 := (hq f g0 g1).2.1 _ _ h3
      omega
theorem rSd_0 (q : tRx) (D : Nat → Int) : rSd q D D := fun _ _ => ⟨0, rfl⟩
theorem rSeven {q : tRx} (hq : rOK q) {D0 E : Nat → Int} (h0 : ∀ i : Nat, i < 8 → D0 i ≤ 1000000) (hc : rCl q E) (hl : rLe E D0) (hs : rSd q D0 E) : ∀ i : Nat, i < 8 → rR q 7 D0 i = E i := by
  intro i hi
  have h1 := cntL_lt E (v := E i) (w := E i + 1) (by omega) (j := i) (Int.le_refl _) (by omega) 8 hi
  have h2 := cntL_le E (E i + 1) 8
  have h3 := rFord hq h0 hc hl hs 7 i hi (by omega)
  obtain ⟨n, hn⟩ := rR_sd hq 7 D0 (rSd_0 q D0) i hi
  have h4 := rMin hq hc hl n i _ hi hn
  omega
theorem Rc_cong {q : tRx} (hq : rOK q) {D0 D1 : Nat → Int} (h : ∀ i : Nat, i < 8 → D0 i = D1 i) : ∀ (n i : Nat) (t : Int), i < 8 → Rc q D0 n i t → Rc q D1 n i t := by
  intro n
  induction n with
  | zero =>
    intro i t hi g
    have g : t = D0 i := g
    rw [h i hi] at g
    exact g
  | succ n ih =>
    intro i t hi g
    obtain ⟨f, g0, g1, g2, t', g3, g4⟩ := g
    exact ⟨f, g0, g1, g2, t', ih _ _ (hq f g0 g1).1.1 g3, g4⟩
theorem rSd_cong {q : tRx} (hq : rOK q) {D0 D1 D : Nat → Int} (h : ∀ i : Nat, i < 8 → D0 i = D1 i) (hs : rSd q D0 D) : rSd q D1 D := fun i hi => by
  obtain ⟨n, hn⟩ := hs i hi
  exact ⟨n, Rc_cong hq h n i _ hi hn⟩
theorem gIn_none (S : tSt) : ∀ (n : Nat) (f : Int) (B : Nat → Int), (gIn S n f B 0).2 = 0 → ∀ g : Int, f ≤ g → g < f + n → S B g = none := by
  intro n
  induction n with
  | zero => intro f B _ g h1 h2; omega
  | succ n ih =>
    intro f B h g h1 h2
    unfold gIn at h
    split at h
    · rename_i e
      by_cases h3 : f = g
      · subst h3; exact e
      · exact ih (f + 1) B h g (by omega) (by omega)
    · rw [gIn_one] at h
      omega
/-- a model's rounds are such rounds: by an encoding of its numbers -/
def gAs (S : tSt) (q : tRx) (I : (Nat → Int) → Prop) (E : (Nat → Int) → Nat → Int) : Prop := ∀ (B : Nat → Int) (f : Int), I B → 0 ≤ f → f < q.1 → match S B f with
  | none => E B (q.2.2.1 f) ≤ q.2.2.2 f (E B (q.2.1 f))
  | some r => I (su B r.1 r.2) ∧ E (su B r.1 r.2) = rS q f (E B)
theorem gAs_in {S : tSt} {q : tRx} {I : (Nat → Int) → Prop} {E : (Nat → Int) → Nat → Int} (hS : gAs S q I E) : ∀ (n : Nat) (f : Int) (B : Nat → Int) (b : Int), f + n ≤ q.1 → 0 ≤ f → I B → I (gIn S n f B b).1 ∧ E (gIn S n f B b).1 = rIn q n f (E B) := by
  intro n
  induction n with
  | zero => intro f B b _ _ h; exact ⟨h, rfl⟩
  | succ n ih =>
    intro f B b h1 h2 h3
    have h4 := hS B f h3 h2 (by omega)
    unfold gIn rIn
    split
    · rename_i e
      rw [e] at h4
      have h5 : rS q f (E B) = E B := by
        unfold rS
        exact if_neg (Int.not_lt.mpr h4)
      rw [h5]
      exact ih _ _ _ (by omega) (by omega) h3
    · rename_i r e
      rw [e] at h4
      dsimp only at h4
      rw [← h4.2]
      exact ih _ _ _ (by omega) (by omega) h4.1
theorem gAs_R {S : tSt} {q : tRx} {I : (Nat → Int) → Prop} {E : (Nat → Int) → Nat → Int} (hS : gAs S q I E) : ∀ (j : Nat) (B : Nat → Int), I B → I (gR S q.1 j B) ∧ E (gR S q.1 j B) = rR q j (E B) := by
  intro j
  induction j with
  | zero => intro B h; exact ⟨h, rfl⟩
  | succ j ih =>
    intro B h
    have h1 := gAs_in hS q.1 0 B 0 (by omega) (by omega) h
    have h2 := ih _ h1.1
    unfold gR rR
    rw [← h1.2]
    exact h2
theorem gAs_end {S : tSt} {q : tRx} (hq : rOK q) {I : (Nat → Int) → Prop} {E : (Nat → Int) → Nat → Int} (hS : gAs S q I E) {B B' : Nat → Int} (hI : I B) (h : gEnd S q.1 B B') : rCl q (E B') ∧ rLe (E B') (E B) ∧ rSd q (E B) (E B') := by
  obtain ⟨j, e, h1⟩ := h
  have h2 := gAs_R hS j B hI
  have hcl : rCl q (E B') := by
    intro f g0 g1
    have h3 := gIn_none S q.1 0 B' h1 f g0 (by omega)
    have h4 := hS B' f (by rw [e]; exact h2.1) g0 g1
    rw [h3] at h4
    exact h4
  refine ⟨hcl, ?_, ?_⟩
  · rw [e, h2.2]
    intro i _
    exact rR_le q j _ i
  · rw [e, h2.2]
    exact rR_sd hq j _ (rSd_0 q _)
end EQR
