section WGL
/-- what stays the same behind the constructors: numbers of the kinds; addresses; the script's length and ints -/
abbrev gW : Type := va_G × (Nat → Nat) × Nat × (Nat → Int32)
def gA (g : gW) (k : Nat) : Nat := g.2.1 k
abbrev gI (g : gW) : Nat := gA g 0
abbrev gC (g : gW) : Nat := gA g 1
abbrev gL (g : gW) : Nat := gA g 2
abbrev gTy (g : gW) : List (ClassId × FieldType) := wTy (gI g) (gC g) (gL g)
def kLEAST (j : Nat) : Int := ([0, 0, 0, 1, 1, 0, 0, 0] : List Int).getD j 0
def kMOST (j : Nat) : Int := ([7, 7, 199, 199, 99, 99, 2, 59] : List Int).getD j 0
def kMOS (j : Nat) : Int := ([719, 60] : List Int).getD j 0
def gCst (g : gW) : List wC := [(gA g 3, .int, 8, fun j => ii (kLEAST j)), (gA g 4, .int, 8, fun j => ii (kMOST j)), (gA g 5, .int, 2, fun j => ii (kMOS j)), (gA g 7, .int, g.2.2.1, g.2.2.2)]
def gStf (g : gW) : wF := fun k => gA g (3 + k)
def gSts (g : gW) : List wT := [(RX3, 203, "there is no such one", gA g 8), (RX3, 210, "an argument is out of range", gA g 9), (RX3, 215, "that cannot be done now", gA g 10)]
abbrev gM (l : Launch) (g : gW) (y : MethodName) (ws : List Cond) (rm : Room) (sp : wSp) : Prop := wMet l g.1 vwCl (gTy g) (gCst g) (gStf g) (gSts g) y ws rm sp
abbrev gMX (l : Launch) (g : gW) (y : MethodName) (ws : List Cond) (rm : Room) (sp : wSp) : Prop := wMetX l g.1 vwCl (gTy g) (gCst g) (gStf g) (gSts g) y ws rm sp
/-- what a method is asked and does, by a tuple of what it finds -/
def wsp {α : Type} (f : α → List Value × va_W × (wK → wX → Prop)) : wSp := fun av w K KX => ∃ a : α, av = (f a).1 ∧ w = (f a).2.1 ∧ (f a).2.2 K KX
/-- a walk: what a method's proof is -/
abbrev gOK (g : gW) (sps : Nat → wSp) (ret : Option FieldType) (K : wK) (KX : wX) (ck : List wAn → Nat → Bool) (G : wJp) : Prop := wOK (gCst g) (gStf g) (gI g) (gC g) (gL g) sps ret K KX ck G
def gWalk (g : gW) (sps : Nat → wSp) (ret : Option FieldType) (nL : Nat) (ck : List wAn → Nat → Bool) (sp : wSp) : Prop := ∀ av w K KX, sp av w K KX → ((lg_sl av).length ≤ nL ∧ (w_in av nL).length = nL) ∧ ∀ G : wJp, gOK g sps ret K (fun _ _ => False) ck G → G 0 (w_in av nL) [] w
def gWalkX (g : gW) (sps : Nat → wSp) (ret : Option FieldType) (nL : Nat) (ck : List wAn → Nat → Bool) (sp : wSp) : Prop := ∀ av w K KX, sp av w K KX → ((lg_sl av).length ≤ nL ∧ (w_in av nL).length = nL) ∧ ∀ G : wJp, gOK g sps ret K KX ck G → G 0 (w_in av nL) [] w
/-- rows of a method but some, by their counters -/
def w_cut (q : List (Nat × List wAn)) (cs : List Nat) : List (Nat × List wAn) := q.filter (fun b => !cs.contains b.1)
theorem w_cut_all {q : List (Nat × List wAn)} {cs : List Nat} {f : Nat × List wAn → Bool} (h : q.all f = true) : (w_cut q cs).all f = true := List.all_eq_true.mpr fun x hx => List.all_eq_true.mp h x (List.mem_filter.mp hx).1
/-- the cells -/
abbrev cI (g : gW) (a n : Nat) (f : Nat → Int) : Nat × va_E := (gA g a, .inl (gI g, n, .inl (fun k => ii (f k))))
abbrev cC (g : gW) (a n : Nat) (f : Nat → Int) : Nat × va_E := (gA g a, .inl (gC g, n, .inl (fun k => ii (f k))))
/-- numbers -/
theorem ii_0 : ii 0 = 0 := rfl
theorem ii_1 : ii 1 = 1 := rfl
theorem ii_toInt {a : Int} (h1 : -2147483648 ≤ a) (h2 : a < 2147483648) : (ii a).toInt = a := by
  show (Int32.ofInt a).toInt = a
  rw [Int32.toInt_ofInt]
  have hs : (Int32.size : Int) = 4294967296 := rfl
  exact Int.bmod_eq_of_le (by omega) (by omega)
theorem ii_of (x : Int32) : ii x.toInt = x := by
  show Int32.ofInt x.toInt = x
  exact Int32.ofInt_toInt x
theorem ii_add (a b : Int) : ii a + ii b = ii (a + b) := (Int32.ofInt_add a b).symm
theorem ii_sub (a b : Int) : ii a - ii b = ii (a - b) := (Int32.ofInt_sub a b).symm
theorem ii_mul (a b : Int) : ii a * ii b = ii (a * b) := (Int32.ofInt_mul a b).symm
theorem ii_eq {a b : Int} (h1 : -2147483648 ≤ a ∧ a < 2147483648) (h2 : -2147483648 ≤ b ∧ b < 2147483648) : ii a = ii b ↔ a = b := by
  rw [← Int32.toInt_inj, ii_toInt h1.1 h1.2, ii_toInt h2.1 h2.2]
theorem ii_lt {a b : Int} (h1 : -2147483648 ≤ a ∧ a < 2147483648) (h2 : -2147483648 ≤ b ∧ b < 2147483648) : ii a < ii b ↔ a < b := by
  rw [Int32.lt_iff_toInt_lt, ii_toInt h1.1 h1.2, ii_toInt h2.1 h2.2]
theorem ii_le {a b : Int} (h1 : -2147483648 ≤ a ∧ a < 2147483648) (h2 : -2147483648 ≤ b ∧ b < 2147483648) : ii a ≤ ii b ↔ a ≤ b := by
  rw [Int32.le_iff_toInt_le, ii_toInt h1.1 h1.2, ii_toInt h2.1 h2.2]
theorem ii_eq0 {a : Int} (h1 : -2147483648 ≤ a ∧ a < 2147483648) : ii a = 0 ↔ a = 0 := ii_eq (b := 0) h1 (by omega)
theorem ii_lt0 {a : Int} (h1 : -2147483648 ≤ a ∧ a < 2147483648) : ii a < 0 ↔ a < 0 := ii_lt (b := 0) h1 (by omega)
theorem ii_gt0 {a : Int} (h1 : -2147483648 ≤ a ∧ a < 2147483648) : 0 < ii a ↔ 0 < a := ii_lt (a := 0) (by omega) h1
theorem ii_le0 {a : Int} (h1 : -2147483648 ≤ a ∧ a < 2147483648) : ii a ≤ 0 ↔ a ≤ 0 := ii_le (b := 0) h1 (by omega)
theorem ii_ge0 {a : Int} (h1 : -2147483648 ≤ a ∧ a < 2147483648) : 0 ≤ ii a ↔ 0 ≤ a := ii_le (a := 0) (by omega) h1
theorem ii_nn {a : Int} (h1 : 0 ≤ a) : ii a = nI a.toNat := by
  obtain ⟨n, rfl⟩ := Int.eq_ofNat_of_zero_le h1
  rw [ii_nat]; rfl
theorem ii_cl {a : Int} (h1 : 0 ≤ a) (h2 : a < 2147483648) : (ii a).toNatClampNeg = a.toNat := by
  rw [ii_nn h1]; exact nI_clamp (by omega)
theorem ii_in {a : Int} {n : Nat} (h1 : 0 ≤ a) (h2 : a < n) (hn : n < 2147483648) : vp_in (ii a) n := by
  rw [ii_nn h1]; exact vp_in_nI (by omega) hn
theorem ii_rem {a b : Int} (h1 : 0 ≤ a) (h2 : a < 2147483648) (h3 : 0 < b) (h4 : b < 2147483648) : ii a - ii a / ii b * ii b = ii (a % b) := by
  rw [ii_nn h1, ii_nn (Int.le_of_lt h3), pk_rem (by omega) (by omega) (by omega), ii_nn (Int.emod_nonneg _ (by omega))]
  congr 1
  obtain ⟨x, rfl⟩ := Int.eq_ofNat_of_zero_le h1
  obtain ⟨y, rfl⟩ := Int.eq_ofNat_of_zero_le (Int.le_of_lt h3)
  rfl
theorem ii_div {a b : Int} (h1 : 0 ≤ a) (h2 : a < 2147483648) (h3 : 0 < b) (h4 : b < 2147483648) : ii a / ii b = ii (a / b) := by
  have q0 : 0 ≤ a / b := Int.ediv_nonneg h1 (Int.le_of_lt h3)
  have q1 : a / b ≤ a := Int.ediv_le_self b h1
  rw [← Int32.toInt_inj, Int32.toInt_div_of_ne_right _ _ (fun q => by have := congrArg Int32.toInt q; rw [ii_toInt (by omega) h4] at this; rw [show (-1 : Int32).toInt = -1 from rfl] at this; omega), ii_toInt (by omega) h2, ii_toInt (by omega) h4, ii_toInt (by omega) (by omega), Int.tdiv_eq_ediv_of_nonneg h1]
def su (f : Nat → Int) (k : Nat) (v : Int) : Nat → Int := fun j => if j = k then v else f j
theorem su_s {f : Nat → Int} {k : Nat} {v : Int} : su f k v k = v := if_pos rfl
theorem su_n {f : Nat → Int} {k j : Nat} {v : Int} (h : j ≠ k) : su f k v j = f j := if_neg h
theorem upd_ii (f : Nat → Int) (k : Nat) (v : Int) : upd (fun j => ii (f j)) k (ii v) = fun j => ii (su f k v j) := by
  funext j
  unfold upd su
  split <;> rfl
theorem cpy_ii (f h : Nat → Int) (a b n : Nat) : va_cpy (fun j => ii (f j)) (fun j => ii (h j)) a b n = fun j => ii (va_cpy f h a b n j) := by
  funext j
  unfold va_cpy
  split <;> rfl
end WGL
