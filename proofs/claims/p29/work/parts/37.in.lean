noncomputable section EQN
/-! every change keeps the row good -/
def okT1 (N : Nat → Int) (t : Int) : Prop := (0 ≤ (N (3 + t * 5 + 0).toNat) ∧ (N (3 + t * 5 + 0).toNat) < 8) ∧ (0 ≤ (N (3 + t * 5 + 1).toNat) ∧ (N (3 + t * 5 + 1).toNat) ≤ 1439) ∧ (0 ≤ (N (3 + t * 5 + 2).toNat) ∧ (N (3 + t * 5 + 2).toNat) ≤ 999)
def IN (N : Nat → Int) : Prop := okW N ∧ ∀ t : Int, 0 ≤ t → t < 4 → okT1 N t
theorem okT1_Tr {N : Nat → Int} (h : IN N) : ∀ t : Int, 0 ≤ t → t < 4 → okTr N t := by
  intro t h0 h1
  have k := h.2 t h0 h1
  unfold okT1 at k
  exact ⟨k.1, by omega, k.2.2⟩
theorem okFI_eq {N N' : Nat → Int} {g g' : Int} (h : ∀ j : Int, 0 ≤ j → j < 8 → (N' (23 + g' * 9 + j).toNat) = (N (23 + g * 9 + j).toNat)) (k : okF N g ∧ okI N g) : okF N' g' ∧ okI N' g' := by
  obtain ⟨k1, k2⟩ := k
  unfold okF at k1 ⊢
  unfold okI at k2 ⊢
  rw [h 0 (by omega) (by omega), h 1 (by omega) (by omega), h 2 (by omega) (by omega), h 3 (by omega) (by omega), h 4 (by omega) (by omega), h 5 (by omega) (by omega), h 6 (by omega) (by omega), h 7 (by omega) (by omega)]
  exact ⟨k1, k2⟩
theorem okT1_eq {N N' : Nat → Int} {t : Int} (h : ∀ j : Int, 0 ≤ j → j < 3 → (N' (3 + t * 5 + j).toNat) = (N (3 + t * 5 + j).toNat)) (k : okT1 N t) : okT1 N' t := by
  unfold okT1 at k ⊢
  rw [h 0 (by omega) (by omega), h 1 (by omega) (by omega), h 2 (by omega) (by omega)]
  exact k
theorem okS_eq {N N' : Nat → Int} (h1 : N' 1 = N 1) (h2 : N' 2 = N 2) (k : okS N) : okS N' := by
  unfold okS at k ⊢
  rw [h1, h2]
  exact k
theorem IN_suF {N : Nat → Int} (h : IN N) {f k v : Int} (hf : 0 ≤ f ∧ f < N 0) (hk : 6 ≤ k ∧ k < 8) (hv : (k = 6 → 0 ≤ v ∧ v ≤ 2) ∧ (k = 7 → 0 ≤ v ∧ v ≤ 59)) : IN (su N (23 + f * 9 + k).toNat v) := by
  obtain ⟨⟨w0, w1, w2⟩, t4⟩ := h
  have lo : ∀ j : Nat, j < 23 → su N (23 + f * 9 + k).toNat v j = N j := fun j hj => su_n (by omega)
  have fy : ∀ g j : Int, 0 ≤ g → 0 ≤ j → j < 9 → (g = f ∧ j = k ∧ ((su N (23 + f * 9 + k).toNat v) (23 + g * 9 + j).toNat) = v) ∨ (¬ (g = f ∧ j = k) ∧ ((su N (23 + f * 9 + k).toNat v) (23 + g * 9 + j).toNat) = (N (23 + g * 9 + j).toNat)) := by
    intro g j a b c
    by_cases q : g = f ∧ j = k
    · obtain ⟨rfl, rfl⟩ := q
      exact Or.inl ⟨rfl, rfl, su_s⟩
    · exact Or.inr ⟨q, su_n (by omega)⟩
  refine ⟨⟨by rw [lo 0 (by omega)]; exact w0, okS_eq (lo 1 (by omega)) (lo 2 (by omega)) w1, fun g a b => ?_⟩, fun t a b => okT1_eq (fun j c d => lo _ (by omega)) (t4 t a b)⟩
  rw [lo 0 (by omega)] at b
  obtain ⟨k1, k2⟩ := w2 g a b
  have y := fun j (c : 0 ≤ j) (d : j < 6) => (fy g j a c (by omega)).elim (fun q => absurd q.2.1 (show j ≠ k by omega)) (fun q => q.2)
  unfold okF at k1 ⊢
  refine ⟨?_, ?_⟩
  · rw [y 2 (by omega) (by omega), y 3 (by omega) (by omega), y 4 (by omega) (by omega), y 5 (by omega) (by omega)]
    refine ⟨k1.1, k1.2.1, k1.2.2.1, k1.2.2.2.1, ?_, ?_⟩
    · rcases fy g 6 a (by omega) (by omega) with ⟨-, q1, q2⟩ | ⟨-, q⟩
      · rw [q2]; exact hv.1 q1.symm
      · rw [q]; exact k1.2.2.2.2.1
    · rcases fy g 7 a (by omega) (by omega) with ⟨-, q1, q2⟩ | ⟨-, q⟩
      · rw [q2]; exact hv.2 q1.symm
      · rw [q]; exact k1.2.2.2.2.2
  · unfold okI at k2 ⊢
    rw [y 0 (by omega) (by omega), y 1 (by omega) (by omega)]
    exact k2
theorem IN_suS {N : Nat → Int} (h : IN N) {k v : Int} (hk : 0 ≤ k ∧ k < 2) (hv : (k = 0 → 0 ≤ v ∧ v ≤ 719) ∧ (k = 1 → 0 ≤ v ∧ v ≤ 60)) : IN (su N (1 + k).toNat v) := by
  obtain ⟨⟨w0, w1, w2⟩, t4⟩ := h
  have hi : ∀ j : Nat, 3 ≤ j → su N (1 + k).toNat v j = N j := fun j hj => su_n (by omega)
  have e0 : su N (1 + k).toNat v 0 = N 0 := su_n (by omega)
  refine ⟨⟨by rw [e0]; exact w0, ?_, fun g a b => okFI_eq (fun j c d => hi _ (by omega)) (w2 g a (by rw [e0] at b; exact b))⟩, fun t a b => okT1_eq (fun j c d => hi _ (by omega)) (t4 t a b)⟩
  unfold okS at w1 ⊢
  by_cases q : k = 0
  · subst q
    have e1 : su N (1 + 0 : Int).toNat v 1 = v := su_s
    have e2 : su N (1 + 0 : Int).toNat v 2 = N 2 := su_n (by omega)
    rw [e1, e2]
    exact ⟨hv.1 rfl, w1.2⟩
  · have q : k = 1 := by omega
    subst q
    have e1 : su N (1 + 1 : Int).toNat v 1 = N 1 := su_n (by omega)
    have e2 : su N (1 + 1 : Int).toNat v 2 = v := su_s
    rw [e1, e2]
    exact ⟨w1.1, hv.2 rfl⟩
theorem IN_place {N : Nat → Int} (h : IN N) {t i m p : Int} (ht : 0 ≤ t ∧ t < 4) (hi : 0 ≤ i ∧ i < 8) (hm : 0 ≤ m ∧ m ≤ 1439) (hp : 0 ≤ p ∧ p ≤ 999) : IN (su (su (su N (3 + t * 5 + 0).toNat i) (3 + t * 5 + 1).toNat m) (3 + t * 5 + 2).toNat p) := by
  obtain ⟨⟨w0, w1, w2⟩, t4⟩ := h
  have out : ∀ j : Nat, (j < 3 ∨ 23 ≤ j) → su (su (su N (3 + t * 5 + 0).toNat i) (3 + t * 5 + 1).toNat m) (3 + t * 5 + 2).toNat p j = N j := fun j hj => by
    rw [su_n (by omega), su_n (by omega), su_n (by omega)]
  refine ⟨⟨by rw [out 0 (by omega)]; exact w0, okS_eq (out 1 (by omega)) (out 2 (by omega)) w1, fun g a b => okFI_eq (fun j c d => out _ (by omega)) (w2 g a (by rw [out 0 (by omega)] at b; exact b))⟩, fun s a b => ?_⟩
  by_cases q : s = t
  · subst q
    unfold okT1
    have e0 : ((su (su (su N (3 + s * 5 + 0).toNat i) (3 + s * 5 + 1).toNat m) (3 + s * 5 + 2).toNat p) (3 + s * 5 + 0).toNat) = i := by rw [su_n (by omega), su_n (by omega), su_s]
    have e1 : ((su (su (su N (3 + s * 5 + 0).toNat i) (3 + s * 5 + 1).toNat m) (3 + s * 5 + 2).toNat p) (3 + s * 5 + 1).toNat) = m := by rw [su_n (by omega), su_s]
    have e2 : ((su (su (su N (3 + s * 5 + 0).toNat i) (3 + s * 5 + 1).toNat m) (3 + s * 5 + 2).toNat p) (3 + s * 5 + 2).toNat) = p := su_s
    rw [e0, e1, e2]
    exact ⟨hi, hm, hp⟩
  · refine okT1_eq (fun j c d => ?_) (t4 s a b)
    rw [su_n (by omega), su_n (by omega), su_n (by omega)]
theorem place_1 (N : Nat → Int) {t i m p : Int} (ht : 0 ≤ t ∧ t < 4) : ((su (su (su N (3 + t * 5 + 0).toNat i) (3 + t * 5 + 1).toNat m) (3 + t * 5 + 2).toNat p) (3 + t * 5 + 1).toNat) = m := by rw [su_n (by omega), su_s]
theorem tellN_0 (N : Nat → Int) (a b c d e f k : Int) : tellN N a b c d e f k 0 = N 0 + 1 := su_s
theorem tellN_old (N : Nat → Int) (a b c d e f k : Int) (j : Nat) (h0 : 0 < j) (h : (j : Int) < 23 + N 0 * 9) : tellN N a b c d e f k j = N j := by
  unfold tellN
  rw [su_n (by omega), su_n (by omega), su_n (by omega), su_n (by omega), su_n (by omega), su_n (by omega), su_n (by omega), su_n (by omega), su_n (by omega), su_n (by omega)]
theorem IN_tell {N : Nat → Int} (h : IN N) {a b c d e f : Int} (hN : N 0 < 14) (ha : 0 ≤ a ∧ a < 8) (hb : 0 ≤ b ∧ b < 8) (hc : 0 ≤ c ∧ c ≤ 199) (hd : 1 ≤ d ∧ d ≤ 199) (he : 1 ≤ e ∧ e ≤ 99) (hf : 0 ≤ f ∧ f ≤ 99) : IN (tellN N a b c d e f 0) := by
  obtain ⟨⟨w0, w1, w2⟩, t4⟩ := h
  have old := tellN_old N a b c d e f 0
  have t0 := tellN_0 N a b c d e f 0
  refine ⟨⟨by rw [t0]; omega, okS_eq (old 1 (by omega) (by omega)) (old 2 (by omega) (by omega)) w1, fun g q1 q2 => ?_⟩, fun t q1 q2 => okT1_eq (fun j c d => old _ (by omega) (by omega)) (t4 t q1 q2)⟩
  rw [t0] at q2
  by_cases q : g = N 0
  · subst q
    have y0 : ((tellN N a b c d e f 0) (23 + (N 0) * 9 + 0).toNat) = a := by
      unfold tellN
      rw [su_n (by omega), su_n (by omega), su_n (by omega), su_n (by omega), su_n (by omega), su_n (by omega), su_n (by omega), su_n (by omega), su_n (by omega), su_s]
    have y1 : ((tellN N a b c d e f 0) (23 + (N 0) * 9 + 1).toNat) = b := by
      unfold tellN
      rw [su_n (by omega), su_n (by omega), su_n (by omega), su_n (by omega), su_n (by omega), su_n (by omega), su_n (by omega), su_n (by omega), su_s]
    have y2 : ((tellN N a b c d e f 0) (23 + (N 0) * 9 + 2).toNat) = c := by
      unfold tellN
      rw [su_n (by omega), su_n (by omega), su_n (by omega), su_n (by omega), su_n (by omega), su_n (by omega), su_n (by omega), su_s]
    have y3 : ((tellN N a b c d e f 0) (23 + (N 0) * 9 + 3).toNat) = d := by
      unfold tellN
      rw [su_n (by omega), su_n (by omega), su_n (by omega), su_n (by omega), su_n (by omega), su_n (by omega), su_s]
    have y4 : ((tellN N a b c d e f 0) (23 + (N 0) * 9 + 4).toNat) = e := by
      unfold tellN
      rw [su_n (by omega), su_n (by omega), su_n (by omega), su_n (by omega), su_n (by omega), su_s]
    have y5 : ((tellN N a b c d e f 0) (23 + (N 0) * 9 + 5).toNat) = f := by
      unfold tellN
      rw [su_n (by omega), su_n (by omega), su_n (by omega), su_n (by omega), su_s]
    have y6 : ((tellN N a b c d e f 0) (23 + (N 0) * 9 + 6).toNat) = 0 := by
      unfold tellN
      rw [su_n (by omega), su_n (by omega), su_n (by omega), su_s]
    have y7 : ((tellN N a b c d e f 0) (23 + (N 0) * 9 + 7).toNat) = 0 := by
      unfold tellN
      rw [su_n (by omega), su_n (by omega), su_s]
    unfold okF okI
    rw [y0, y1, y2, y3, y4, y5, y6, y7]
    exact ⟨⟨hc, hd, he, hf, by omega, by omega⟩, ha, hb⟩
  · exact okFI_eq (fun j c d => old _ (by omega) (by omega)) (w2 g q1 (by omega))
theorem forgetN_at (N : Nat → Int) (f : Int) (hf : 0 ≤ f ∧ f < N 0) (hN : N 0 ≤ 14) : forgetN N f 0 = N 0 - 1 ∧ (∀ j : Nat, 0 < j → j < 23 → forgetN N f j = N j) ∧ ∀ g j : Int, 0 ≤ g → g < N 0 - 1 → 0 ≤ j → j < 9 → (f ≤ g → ((forgetN N f) (23 + g * 9 + j).toNat) = (N (23 + (g + 1) * 9 + j).toNat)) ∧ (g < f → ((forgetN N f) (23 + g * 9 + j).toNat) = (N (23 + g * 9 + j).toNat)) := by
  unfold forgetN
  refine ⟨su_s, fun j h1 h2 => ?_, fun g j h1 h2 h3 h4 => ?_⟩
  · rw [su_n (by omega)]
    split
    · unfold va_cpy
      exact if_neg (by omega)
    · rfl
  · rw [su_n (by omega)]
    by_cases q : f < N 0 - 1
    · rw [if_pos q]
      unfold va_cpy
      refine ⟨fun q1 => ?_, fun q1 => if_neg (by omega)⟩
      rw [if_pos (by omega)]
      congr 1
      omega
    · rw [if_neg q]
      exact ⟨fun q1 => by omega, fun _ => rfl⟩
theorem IN_forget {N : Nat → Int} (h : IN N) {f : Int} (hf : 0 ≤ f ∧ f < N 0) : IN (forgetN N f) := by
  obtain ⟨⟨w0, w1, w2⟩, t4⟩ := h
  obtain ⟨k0, k1, k2⟩ := forgetN_at N f hf w0.2
  refine ⟨⟨by rw [k0]; omega, okS_eq (k1 1 (by omega) (by omega)) (k1 2 (by omega) (by omega)) w1, fun g q1 q2 => ?_⟩, fun t q1 q2 => okT1_eq (fun j c d => k1 _ (by omega) (by omega)) (t4 t q1 q2)⟩
  rw [k0] at q2
  by_cases q : f ≤ g
  · exact okFI_eq (g := g + 1) (fun j c d => (k2 g j q1 q2 c (by omega)).1 q) (w2 (g + 1) (by omega) (by omega))
  · exact okFI_eq (fun j c d => (k2 g j q1 q2 c (by omega)).2 (by omega)) (w2 g q1 (by omega))
theorem okV_s {sc os : Int} (ho : okV sc os) : okV (svS sc + 1) (svO sc os) := by
  have hS : 0 ≤ svS sc ∧ svS sc ≤ 5 := by unfold svS; split <;> omega
  have hO : 0 ≤ svO sc os ∧ svO sc os < 6 := by unfold svO; split <;> omega
  exact ⟨by omega, hO⟩
end EQN
noncomputable section EQM
/-! the mask of a traveller's islands, and the joined pairs, as the law counts them -/
def rmF (N : Nat → Int) (i m p : Int) (n k : Nat) (q : Int32) : Int32 := match n with
  | 0 => q
  | n + 1 => rmF N i m p n (k + 1) (q ||| (if 0 ≤ chp N i m (k : Int) 1539 ∧ chp N i m (k : Int) 1539 ≤ p then ii 1 <<< (ii (k : Int) &&& 31) else ii 0))
theorem or_0 (q : Int32) : q ||| ii 0 = q := by
  show q ||| 0 = q
  simp
theorem iwF_rm {N : Nat → Int} (hW : okW N) {i m p : Int} (hi : 0 ≤ i ∧ i < 8) (hm : 0 ≤ m ∧ m ≤ 1439) {W : tWY} (hw : okWs W) : ∀ (n k : Nat) (q : Int32), k + n = 8 → iwF (wFar N i m 1539 W).2.2.1 p n k q = rmF N i m p n k q := by
  intro n
  induction n with
  | zero => intro k q _; rfl
  | succ n ih =>
    intro k q h1
    unfold iwF rmF
    have e := wFar_chp hW hi hm (j := (k : Int)) (l := 1539) (by omega) (by omega) hw
    rw [Int.toNat_natCast] at e
    have hb := chp_c hW hi hm (j := (k : Int)) (l := 1539) (by omega) (by omega)
    rw [ih _ _ (by omega), e]
    by_cases h2 : 0 ≤ chp N i m (k : Int) 1539 ∧ chp N i m (k : Int) 1539 ≤ p
    · rw [if_pos h2, if_pos (by omega)]
    · rw [if_neg h2, if_neg (by omega), or_0]
theorem rmF_or (N : Nat → Int) (i m p : Int) (b : Int32) : ∀ (n k : Nat) (q : Int32), rmF N i m p n k (q ||| b) = rmF N i m p n k q ||| b := by
  intro n
  induction n with
  | zero => intro k q; rfl
  | succ n ih =>
    intro k q
    unfold rmF
    rw [← ih]
    congr 1
    rw [Int32.or_assoc, Int32.or_assoc, Int32.or_comm b]
theorem rmF_in (N : Nat → Int) {i m p : Int} {j : Nat} (hj : 0 ≤ chp N i m (j : Int) 1539 ∧ chp N i m (j : Int) 1539 ≤ p) : ∀ (n k : Nat) (q : Int32), k ≤ j → j < k + n → rmF N i m p n k q ||| (ii 1 <<< (ii (j : Int) &&& 31)) = rmF N i m p n k q := by
  intro n
  induction n with
  | zero => intro k q h1 h2; omega
  | succ n ih =>
    intro k q h1 h2
    unfold rmF
    by_cases h3 : k = j
    · subst h3
      rw [if_pos hj, ← rmF_or, Int32.or_assoc, Int32.or_self]
    · exact ih (k + 1) _ (by omega) (by omega)
theorem rm_start {N : Nat → Int} (hW : okW N) {i m p : Int} (hi : 0 ≤ i ∧ i < 8) (hm : 0 ≤ m ∧ m ≤ 1439) (hp : 0 ≤ p) : rmF N i m p 8 0 (ii 1 <<< (ii i &&& 31)) = rmF N i m p 8 0 (ii 0) := by
  have h := chp_self hW (i := i) (l := 1539) hi hm (by omega)
  have e : ((i.toNat : Nat) : Int) = i := by omega
  have h1 := rmF_in N (i := i) (m := m) (p := p) (j := i.toNat) (by rw [e, h]; omega) 8 0 (ii 0) (by omega) (by omega)
  rw [e] at h1
  rw [← h1, ← rmF_or]
  congr 1
  rw [Int32.or_comm, or_0]
def jcP (N : Nat → Int) (k : Int) : Prop := k / 8 ≠ k % 8 ∧ 0 ≤ tA N (k / 8) 0 (k % 8).toNat
def jL (N : Nat → Int) (n : Nat) (k p : Int) : Int := match n with
  | 0 => p
  | n + 1 => jL N n (k + 1) (p + bI (jcP N k))
theorem jL_s (N : Nat → Int) (n : Nat) (k p : Int) : jL N (n + 1) k p = jL N n (k + 1) (p + bI (jcP N k)) := rfl
theorem jpI_s (A : Nat → Int) (i : Int) (n : Nat) (t p : Int) : jpI A i (n + 1) t p = jpI A i n (t + 1) (if t ≠ i ∧ A t.toNat ≠ -1 then p + 1 else p) := rfl
theorem jL_in {N : Nat → Int} (hW : okW N) {i : Int} (hi : 0 ≤ i) {A : Nat → Int} (r : Nat) : ∀ (n : Nat) (t p : Int), t + n = 8 → 0 ≤ t → jL N (n + 8 * r) (8 * i + t) p = jL N (8 * r) (8 * (i + 1)) (jpI (fArr N A i 0) i n t p) := by
  intro n
  induction n with
  | zero =>
    intro t p h1 h2
    rw [show 8 * i + t = 8 * (i + 1) by omega, Nat.zero_add]
    rfl
  | succ n ih =>
    intro t p h1 h2
    rw [show n + 1 + 8 * r = (n + 8 * r) + 1 by omega, jL_s, jpI_s]
    have hT := tA_ok hW (i := i) (m := 0) (by omega) t.toNat (by omega)
    have e := fArr_tA hW (A := A) (i := i) (m := 0) (by omega) (k := t.toNat) (by omega)
    have ih := ih (t + 1) (if t ≠ i ∧ fArr N A i 0 t.toNat ≠ -1 then p + 1 else p) (by omega) (by omega)
    rw [← ih, show 8 * i + t + 1 = 8 * i + (t + 1) by omega, e]
    have e1 : (8 * i + t) / 8 = i := by omega
    have e2 : (8 * i + t) % 8 = t := by omega
    have e3 : jcP N (8 * i + t) ↔ (t ≠ i ∧ tA N i 0 t.toNat ≠ -1) := by
      unfold jcP
      rw [e1, e2]
      omega
    by_cases q : t ≠ i ∧ tA N i 0 t.toNat ≠ -1
    · rw [if_pos q, bI_t (e3.mpr q)]
    · rw [if_neg q, bI_f (fun s => q (e3.mp s)), Int.add_zero]
theorem jL_out {N : Nat → Int} (hW : okW N) : ∀ (r : Nat) (i : Int) (A : Nat → Int) (p : Int), i + r = 8 → 0 ≤ i → (jpO N r i A p).2 = jL N (8 * r) (8 * i) p := by
  intro r
  induction r with
  | zero => intro i A p _ _; rfl
  | succ r ih =>
    intro i A p h1 h2
    unfold jpO
    rw [ih (i + 1) _ _ (by omega) (by omega)]
    have h := jL_in hW h2 (A := A) r 8 0 p (by omega) (by omega)
    rw [show 8 * (r + 1) = 8 + 8 * r by omega, show 8 * i = 8 * i + 0 by omega]
    exact h.symm
theorem jL_b (N : Nat → Int) : ∀ (n : Nat) (k p : Int), p ≤ jL N n k p ∧ jL N n k p ≤ p + n := by
  intro n
  induction n with
  | zero => intro k p; unfold jL; omega
  | succ n ih =>
    intro k p
    unfold jL
    have h1 := ih (k + 1) (p + bI (jcP N k))
    have h2 := (bI_c (jcP N k)).2
    omega
theorem shr_cmp : ∀ p : Nat, p < 65 → Op.cmpValue (FP.dcmp (shr p) (shr p)) .l = 0 := by decide +kernel
end EQM
