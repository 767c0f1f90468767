/-! THE WALK AS A PREDICATE. wS: one instruction; wB: a row of them; wJ: rows by their first counters. wS_sound: what they say is true of the machine. -/
section WPD
def ii (z : Int) : Int32 := Int32.ofInt z
abbrev wLo : Type := List (Option Value)
abbrev wK : Type := Option Value → va_W → Prop
abbrev wX : Type := String → va_W → Prop
abbrev wSp : Type := List Value → va_W → wK → wX → Prop
abbrev wJp : Type := Nat → wLo → List Value → va_W → Prop
abbrev wAn : Type := Instr × Nat × Nat × Nat × Nat
abbrev wC : Type := Nat × FieldType × Nat × (Nat → Int32)
abbrev wF : Type := Nat → Nat
/-- the static arrays' names; what a nest mate's links are -/
def wSN : List (String × String × String) := [(RX3, "LEAST", "[I"), (RX3, "MOST", "[I"), (RX3, "MOST_OF_SETTING", "[I")]
def wNM : List (String × Nat × MethodName × String) := []
def wNF : List (String × Nat × String × String × String × String) := []
def w_pI (st : List Value) (k : Int32 → List Value → Prop) : Prop := match st with
  | .int x :: r => k x r
  | _ => False
def w_pL (st : List Value) (k : Int64 → List Value → Prop) : Prop := match st with
  | .long x :: r => k x r
  | _ => False
def w_pD (st : List Value) (k : UInt64 → List Value → Prop) : Prop := match st with
  | .double x :: r => k x r
  | _ => False
def w_pR (st : List Value) (k : Nat → List Value → Prop) : Prop := match st with
  | .ref x :: r => k x r
  | _ => False
def w_pV (st : List Value) (k : Value → List Value → Prop) : Prop := match st with
  | v :: r => v.category = 1 ∧ k v r
  | _ => False
def w_gI (lo : wLo) (i : Nat) (k : Int32 → Prop) : Prop := match lo[i]? with
  | some (some (.int x)) => k x
  | _ => False
def w_gL (lo : wLo) (i : Nat) (k : Int64 → Prop) : Prop := match lo[i]? with
  | some (some (.long x)) => k x
  | _ => False
def w_gD (lo : wLo) (i : Nat) (k : UInt64 → Prop) : Prop := match lo[i]? with
  | some (some (.double x)) => k x
  | _ => False
def w_gR (lo : wLo) (i : Nat) (k : Nat → Prop) : Prop := match lo[i]? with
  | some (some (.ref x)) => k x
  | _ => False
def w_cl (a : Option Value) : Option Value := match a with
  | some (.long _) => none
  | some (.double _) => none
  | x => x
def w_h (l : wLo) : wLo := match l with
  | [] => []
  | _ :: l => none :: l
def w_s1 (l : wLo) (i : Nat) (v : Value) : wLo := match l, i with
  | [], _ => []
  | _ :: l, 0 => some v :: l
  | a :: l, 1 => w_cl a :: w_s1 l 0 v
  | a :: l, n + 2 => a :: w_s1 l (n + 1) v
def w_s2 (l : wLo) (i : Nat) (v : Value) : wLo := match l, i with
  | [], _ => []
  | _ :: l, 0 => some v :: w_h l
  | a :: l, 1 => w_cl a :: w_s2 l 0 v
  | a :: l, n + 2 => a :: w_s2 l (n + 1) v
def w_o (w : va_W) (q : Nat) (k : Nat → Nat → List Value → Prop) : Prop := match w[q]? with
  | some (a, .inr (ci, fs)) => k a ci fs
  | _ => False
def w_a (w : va_W) (q : Nat) (k : Nat → Nat → Nat → (Nat → Int32) → Prop) : Prop := match w[q]? with
  | some (a, .inl (cA, n, .inl f)) => k a cA n f
  | _ => False
def w_aL (w : va_W) (q : Nat) (k : Nat → Nat → Nat → (Nat → Int64) → Prop) : Prop := match w[q]? with
  | some (a, .inl (cA, n, .inr (.inl f))) => k a cA n f
  | _ => False
def w_f (fs : List Value) (i : Nat) (k : Value → Prop) : Prop := match fs[i]? with
  | some v => k v
  | none => False
def w_c (cst : List wC) (i : Nat) (k : Nat → FieldType → Nat → (Nat → Int32) → Prop) : Prop := match cst[i]? with
  | some (t, ty, n, f) => k t ty n f
  | none => False
def w_z (stf : wF) (i : Nat) (k : Nat → Prop) : Prop := i < 4 ∧ k (stf i)
def w_ca (n : Nat) (st : List Value) (k : List Value → List Value → Prop) : Prop := n ≤ st.length ∧ k (st.take n).reverse (st.drop n)
def w_ri (ret : Option FieldType) (x : Int32) : Prop := match ret with
  | some .int => True
  | some .boolean => x = 0 ∨ x = 1
  | _ => False
def w_jc (c : Jvm.ClassFile.Cond) (x : Int32) (t f : Prop) : Prop := match c with
  | .eq => (x = 0 → t) ∧ (¬ x = 0 → f)
  | .ne => (¬ x = 0 → t) ∧ (x = 0 → f)
  | .lt => (x < 0 → t) ∧ (¬ x < 0 → f)
  | .ge => (0 ≤ x → t) ∧ (¬ 0 ≤ x → f)
  | .gt => (0 < x → t) ∧ (¬ 0 < x → f)
  | .le => (x ≤ 0 → t) ∧ (¬ x ≤ 0 → f)
def w_j2 (c : Jvm.ClassFile.Cond) (x y : Int32) (t f : Prop) : Prop := match c with
  | .eq => (x = y → t) ∧ (¬ x = y → f)
  | .ne => (¬ x = y → t) ∧ (x = y → f)
  | .lt => (x < y → t) ∧ (¬ x < y → f)
  | .ge => (y ≤ x → t) ∧ (¬ y ≤ x → f)
  | .gt => (y < x → t) ∧ (¬ y < x → f)
  | .le => (x ≤ y → t) ∧ (¬ x ≤ y → f)
/-- the call's cells: 0: all; 1: none; else start and how many (one number: 100 * start + how many) -/
def w_pre (w : va_W) (h : Nat) : va_W := match h with
  | 0 => []
  | 1 => w
  | h => w.take (h / 100)
def w_mid (w : va_W) (h : Nat) : va_W := match h with
  | 0 => w
  | 1 => []
  | h => (w.drop (h / 100)).take (h % 100)
def w_post (w : va_W) (h : Nat) : va_W := match h with
  | 0 => []
  | 1 => []
  | h => w.drop (h / 100 + h % 100)
/-- the operands left below a call's fit in so many slots -/
def w_rl (n : Nat) (rest : List Value) : Prop := match rest with
  | [] => True
  | v :: t => v.category ≤ n ∧ w_rl (n - v.category) t
def wS (cst : List wC) (stf : wF) (cI cC cL : Nat) (sp : Nat → wSp) (ret : Option FieldType) (Q : wK) (QX : wX) (J : wJp) (a : wAn) (lo : wLo) (st : List Value) (w : va_W) (k : wLo → List Value → va_W → Prop) : Prop := match a with
  | (.iconst n, _, _, _, _) => k lo (.int (ii n) :: st) w
  | (.bipush n, _, _, _, _) => k lo (.int (ii n) :: st) w
  | (.sipush n, _, _, _, _) => k lo (.int (ii n) :: st) w
  | (.lconst n, _, _, _, _) => k lo (.long (Int64.ofNat (n : Nat)) :: st) w
  | (.ldc _, _, h1, _, _) => k lo (.int (ii h1) :: st) w
  | (.ldc2_w _, _, h1, h2, _) => k lo ((if h2 = 0 then Value.long (Int64.ofNat h1) else .double (UInt64.ofNat h1)) :: st) w
  | (.dconst n, _, _, _, _) => k lo (.double (if (n : Nat) = 0 then FP.dconst0 else FP.dconst1) :: st) w
  | (.iload_n n, _, _, _, _) => w_gI lo n fun x => k lo (.int x :: st) w
  | (.iload n, _, _, _, _) => w_gI lo n fun x => k lo (.int x :: st) w
  | (.lload_n n, _, _, _, _) => w_gL lo n fun x => k lo (.long x :: st) w
  | (.lload n, _, _, _, _) => w_gL lo n fun x => k lo (.long x :: st) w
  | (.dload_n n, _, _, _, _) => w_gD lo n fun x => k lo (.double x :: st) w
  | (.dload n, _, _, _, _) => w_gD lo n fun x => k lo (.double x :: st) w
  | (.aload_n n, _, _, _, _) => w_gR lo n fun x => k lo (.ref x :: st) w
  | (.aload n, _, _, _, _) => w_gR lo n fun x => k lo (.ref x :: st) w
  | (.istore_n n, _, _, _, _) => w_pI st fun x st => k (w_s1 lo n (.int x)) st w
  | (.istore n, _, _, _, _) => w_pI st fun x st => k (w_s1 lo n (.int x)) st w
  | (.astore_n n, _, _, _, _) => w_pR st fun x st => k (w_s1 lo n (.ref x)) st w
  | (.astore n, _, _, _, _) => w_pR st fun x st => k (w_s1 lo n (.ref x)) st w
  | (.lstore_n n, _, _, _, _) => w_pL st fun x st => k (w_s2 lo n (.long x)) st w
  | (.lstore n, _, _, _, _) => w_pL st fun x st => k (w_s2 lo n (.long x)) st w
  | (.dstore_n n, _, _, _, _) => w_pD st fun x st => k (w_s2 lo n (.double x)) st w
  | (.dstore n, _, _, _, _) => w_pD st fun x st => k (w_s2 lo n (.double x)) st w
  | (.iinc n z, _, _, _, _) => w_gI lo n fun x => k (w_s1 lo n (.int (x + ii z))) st w
  | (.iadd, _, _, _, _) => w_pI st fun y st => w_pI st fun x st => k lo (.int (x + y) :: st) w
  | (.isub, _, _, _, _) => w_pI st fun y st => w_pI st fun x st => k lo (.int (x - y) :: st) w
  | (.imul, _, _, _, _) => w_pI st fun y st => w_pI st fun x st => k lo (.int (x * y) :: st) w
  | (.iand, _, _, _, _) => w_pI st fun y st => w_pI st fun x st => k lo (.int (x &&& y) :: st) w
  | (.ior, _, _, _, _) => w_pI st fun y st => w_pI st fun x st => k lo (.int (x ||| y) :: st) w
  | (.irem, _, _, _, _) => w_pI st fun y st => w_pI st fun x st => ¬ y = 0 ∧ k lo (.int (x - x / y * y) :: st) w
  | (.idiv, _, _, _, _) => w_pI st fun y st => w_pI st fun x st => ¬ y = 0 ∧ k lo (.int (x / y) :: st) w
  | (.ishr, _, _, _, _) => w_pI st fun y st => w_pI st fun x st => k lo (.int (x >>> (y &&& 31)) :: st) w
  | (.ixor, _, _, _, _) => w_pI st fun y st => w_pI st fun x st => k lo (.int (x ^^^ y) :: st) w
  | (.ishl, _, _, _, _) => w_pI st fun y st => w_pI st fun x st => k lo (.int (x <<< (y &&& 31)) :: st) w
  | (.i2l, _, _, _, _) => w_pI st fun x st => k lo (.long x.toInt64 :: st) w
  | (.i2c, _, _, _, _) => w_pI st fun x st => k lo (.int (x.toUInt32 % 65536).toInt32 :: st) w
  | (.i2d, _, _, _, _) => w_pI st fun x st => k lo (.double (FP.i2d x) :: st) w
  | (.d2l, _, _, _, _) => w_pD st fun x st => k lo (.long (FP.d2l x) :: st) w
  | (.ladd, _, _, _, _) => w_pL st fun y st => w_pL st fun x st => k lo (.long (x + y) :: st) w
  | (.lsub, _, _, _, _) => w_pL st fun y st => w_pL st fun x st => k lo (.long (x - y) :: st) w
  | (.lmul, _, _, _, _) => w_pL st fun y st => w_pL st fun x st => k lo (.long (x * y) :: st) w
  | (.lcmp, _, _, _, _) => w_pL st fun y st => w_pL st fun x st => k lo (.int (lg_cmp x y) :: st) w
  | (.ddiv, _, _, _, _) => w_pD st fun y st => w_pD st fun x st => vf_n64 (FP.ddiv x y) ∧ k lo (.double (FP.ddiv x y) :: st) w
  | (.dmul, _, _, _, _) => w_pD st fun y st => w_pD st fun x st => vf_n64 (FP.dmul x y) ∧ k lo (.double (FP.dmul x y) :: st) w
  | (.dsub, _, _, _, _) => w_pD st fun y st => w_pD st fun x st => vf_n64 (FP.dsub x y) ∧ k lo (.double (FP.dsub x y) :: st) w
  | (.dcmp op, _, _, _, _) => w_pD st fun y st => w_pD st fun x st => k lo (.int (Op.cmpValue (FP.dcmp x y) op) :: st) w
  | (.dup, _, _, _, _) => w_pV st fun v st => k lo (v :: v :: st) w
  | (.pop, _, _, _, _) => w_pV st fun _ st => k lo st w
  | (.dup2, _, _, _, _) => w_pV st fun v st => w_pV st fun v2 st => k lo (v :: v2 :: v :: v2 :: st) w
  | (.getfield _, _, h1, h2, h3) => w_pR st fun x st => w_o w h1 fun a ci fs => x = a ∧ ci = h2 ∧ w_f fs h3 fun v => k lo (v :: st) w
  | (.putfield _, _, h1, h2, h3) => w_pI st fun x st => w_pR st fun r st => w_o w h1 fun a ci fs => r = a ∧ ci = h2 ∧ h3 < fs.length ∧ k lo st (w.set h1 (a, .inr (ci, fs.set h3 (.int x))))
  | (.getstatic _, _, h1, _, _) => w_z stf h1 fun t => k lo (.ref t :: st) w
  | (.iaload, _, h1, h2, _) => w_pI st fun i st => w_pR st fun r st => if h2 = 0 then (w_a w h1 fun a cA n f => r = a ∧ cA = cI ∧ vp_in i n ∧ k lo (.int (f i.toNatClampNeg) :: st) w) else (w_c cst h1 fun t ty n f => r = t ∧ ty = .int ∧ vp_in i n ∧ k lo (.int (f i.toNatClampNeg) :: st) w)
  | (.iastore, _, h1, _, _) => w_pI st fun x st => w_pI st fun i st => w_pR st fun r st => w_a w h1 fun a cA n f => r = a ∧ cA = cI ∧ vp_in i n ∧ k lo st (w.set h1 (a, .inl (cA, n, .inl (upd f i.toNatClampNeg x))))
  | (.arraylength, _, h1, h2, _) => w_pR st fun r st => if h2 = 0 then (w_a w h1 fun a cA n _ => r = a ∧ cA = cI ∧ k lo (.int (ii n) :: st) w) else (w_c cst h1 fun t _ n _ => r = t ∧ k lo (.int (ii n) :: st) w)
  | (.goto _, _, h1, _, _) => J h1 lo st w
  | (.ifCond c _, _, h1, _, _) => w_pI st fun x st => w_jc c x (J h1 lo st w) (k lo st w)
  | (.if_icmp c _, _, h1, _, _) => w_pI st fun y st => w_pI st fun x st => w_j2 c x y (J h1 lo st w) (k lo st w)
  | (.invokevirtual _, _, h1, h2, h3) => w_ca h3 st fun av rest => w_rl 8 rest ∧ sp h1 av (w_mid w h2) (fun v w' => k lo (v.toList ++ rest) (w_pre w h2 ++ (w' ++ w_post w h2))) (fun E w' => QX E (w_pre w h2 ++ (w' ++ w_post w h2)))
  | (.invokestatic _, _, h1, h2, h3) => w_ca h3 st fun av rest => w_rl 8 rest ∧ sp h1 av (w_mid w h2) (fun v w' => k lo (v.toList ++ rest) (w_pre w h2 ++ (w' ++ w_post w h2))) (fun E w' => QX E (w_pre w h2 ++ (w' ++ w_post w h2)))
  | (.ireturn, _, _, _, _) => w_pI st fun x st => st = [] ∧ w_ri ret x ∧ Q (some (.int x)) w
  | (.lreturn, _, _, _, _) => w_pL st fun x st => st = [] ∧ ret = some .long ∧ Q (some (.long x)) w
  | (.dreturn, _, _, _, _) => w_pD st fun x st => st = [] ∧ ret = some .double ∧ Q (some (.double x)) w
  | (.return_, _, _, _, _) => st = [] ∧ ret = none ∧ Q none w
  | _ => False
def wB (cst : List wC) (stf : wF) (cI cC cL : Nat) (sp : Nat → wSp) (ret : Option FieldType) (Q : wK) (QX : wX) (J : wJp) (b : List wAn) (pc : Nat) (lo : wLo) (st : List Value) (w : va_W) : Prop := match b with
  | [] => J pc lo st w
  | a :: b => wS cst stf cI cC cL sp ret Q QX J a lo st w (wB cst stf cI cC cL sp ret Q QX J b (pc + a.2.1))
def wJ (cst : List wC) (stf : wF) (cI cC cL : Nat) (sp : Nat → wSp) (ret : Option FieldType) (Q : wK) (QX : wX) (bs : List (Nat × List wAn)) (stop : wJp) (n : Nat) (pc : Nat) (lo : wLo) (st : List Value) (w : va_W) : Prop := match n with
  | 0 => stop pc lo st w
  | n + 1 => match bs.lookup pc with
    | some b => wB cst stf cI cC cL sp ret Q QX (wJ cst stf cI cC cL sp ret Q QX bs stop n) b pc lo st w
    | none => stop pc lo st w
def w_len (i : Instr) : Nat := match i with
  | .bipush _ | .ldc _ | .iload _ | .lload _ | .dload _ | .aload _ | .istore _ | .lstore _ | .dstore _ | .astore _ => 2
  | .sipush _ | .ldc2_w _ | .iinc _ _ | .getfield _ | .putfield _ | .getstatic _ | .goto _ | .ifCond _ _ | .if_icmp _ _ | .invokevirtual _ | .invokestatic _ => 3
  | _ => 1
def w_ck (ws : List Cond) (own : String) (cl : List vw_C) (nL : Nat) (cc : ByteArray) (ct : List (Instr × Nat)) (a : wAn) (pc : Nat) : Bool := decide (decode cc pc = .ok (a.1, a.2.1)) && (a.2.1 == w_len a.1 && match a with
  | (.bipush n, _, _, _, _) => decide ((Int8.ofInt n).toInt32 = ii n)
  | (.sipush n, _, _, _, _) => decide ((Int16.ofInt n).toInt32 = ii n)
  | (.ldc x, _, h1, _, _) => decide (Cond.constant own x (ii h1) ∈ ws)
  | (.ldc2_w x, _, h1, h2, _) => if h2 = 0 then decide (Cond.constantLong own x (Int64.ofNat h1) ∈ ws) else decide (Cond.constantDouble own x (UInt64.ofNat h1) ∈ ws)
  | (.istore_n n, _, _, _, _) => decide ((n : Nat) < nL)
  | (.istore n, _, _, _, _) => decide (n < nL)
  | (.astore_n n, _, _, _, _) => decide ((n : Nat) < nL)
  | (.astore n, _, _, _, _) => decide (n < nL)
  | (.lstore_n n, _, _, _, _) => decide ((n : Nat) + 1 < nL)
  | (.lstore n, _, _, _, _) => decide (n + 1 < nL)
  | (.dstore_n n, _, _, _, _) => decide ((n : Nat) + 1 < nL)
  | (.dstore n, _, _, _, _) => decide (n + 1 < nL)
  | (.iinc n _, _, _, _, _) => decide (n < nL)
  | (.getfield x, _, _, h2, h3) => match cl[h2]? with
    | some (C, T, N) => decide (h3 < N) && (decide ((T h3).1 = C) && (decide (Cond.fieldLink own x C (T h3).2.1 (T h3).2.2.1 ∈ ws) && decide (∀ w ∈ u_ws C T N, w ∈ ws)))
    | none => false
  | (.putfield x, _, _, h2, h3) => match cl[h2]? with
    | some (C, T, N) => decide (h3 < N) && (decide ((T h3).1 = C) && (decide (Cond.fieldLink own x C (T h3).2.1 (T h3).2.2.1 ∈ ws) && (decide (∀ w ∈ u_ws C T N, w ∈ ws) && (decide ((T h3).2.2.2 = false) && decide ((T h3).2.2.1 = "I")))))
    | none => false
  | (.getstatic x, _, h1, h2, _) => match wSN[h1]? with
    | some (C, n, d) => if h2 = 0 then decide (Cond.fieldLink own x C n d ∈ ws) else decide ((own, x, C, n, d, C) ∈ wNF)
    | none => false
  | (.goto o, _, h1, _, _) => decide ((pc : Int) + o = (h1 : Int))
  | (.ifCond _ o, _, h1, _, _) => decide ((pc : Int) + o = (h1 : Int))
  | (.if_icmp _ o, _, h1, _, _) => decide ((pc : Int) + o = (h1 : Int))
  | (.invokevirtual x, _, h1, _, h3) => decide (ct[h1]? = some (.invokevirtual x, h3))
  | (.invokestatic x, _, h1, _, h3) => decide (ct[h1]? = some (.invokestatic x, h3))
  | _ => true)
def w_ckB (ws : List Cond) (own : String) (cl : List vw_C) (nL : Nat) (cc : ByteArray) (ct : List (Instr × Nat)) (b : List wAn) (pc : Nat) : Bool := match b with
  | [] => true
  | a :: b => w_ck ws own cl nL cc ct a pc && w_ckB ws own cl nL cc ct b (pc + a.2.1)
end WPD
section WPL
theorem ii_nat (n : Nat) : ii (n : Int) = Int32.ofNat n := by
  apply Int32.toBitVec_inj.mp
  show BitVec.ofInt 32 (n : Int) = BitVec.ofNat 32 n
  exact BitVec.ofInt_natCast 32 n
theorem w_pI_e {st : List Value} {k : Int32 → List Value → Prop} (h : w_pI st k) : ∃ x r, st = .int x :: r ∧ k x r := by
  unfold w_pI at h; split at h
  · exact ⟨_, _, rfl, h⟩
  · exact h.elim
theorem w_pL_e {st : List Value} {k : Int64 → List Value → Prop} (h : w_pL st k) : ∃ x r, st = .long x :: r ∧ k x r := by
  unfold w_pL at h; split at h
  · exact ⟨_, _, rfl, h⟩
  · exact h.elim
theorem w_pD_e {st : List Value} {k : UInt64 → List Value → Prop} (h : w_pD st k) : ∃ x r, st = .double x :: r ∧ k x r := by
  unfold w_pD at h; split at h
  · exact ⟨_, _, rfl, h⟩
  · exact h.elim
theorem w_pR_e {st : List Value} {k : Nat → List Value → Prop} (h : w_pR st k) : ∃ x r, st = .ref x :: r ∧ k x r := by
  unfold w_pR at h; split at h
  · exact ⟨_, _, rfl, h⟩
  · exact h.elim
theorem w_pV_e {st : List Value} {k : Value → List Value → Prop} (h : w_pV st k) : ∃ x r, st = x :: r ∧ x.category = 1 ∧ k x r := by
  unfold w_pV at h; split at h
  · exact ⟨_, _, rfl, h.1, h.2⟩
  · exact h.elim
theorem w_gI_e {lo : wLo} {i : Nat} {k : Int32 → Prop} (h : w_gI lo i k) : ∃ x, lo[i]? = some (some (.int x)) ∧ k x := by
  unfold w_gI at h; split at h
  · exact ⟨_, by assumption, h⟩
  · exact h.elim
theorem w_gL_e {lo : wLo} {i : Nat} {k : Int64 → Prop} (h : w_gL lo i k) : ∃ x, lo[i]? = some (some (.long x)) ∧ k x := by
  unfold w_gL at h; split at h
  · exact ⟨_, by assumption, h⟩
  · exact h.elim
theorem w_gD_e {lo : wLo} {i : Nat} {k : UInt64 → Prop} (h : w_gD lo i k) : ∃ x, lo[i]? = some (some (.double x)) ∧ k x := by
  unfold w_gD at h; split at h
  · exact ⟨_, by assumption, h⟩
  · exact h.elim
theorem w_gR_e {lo : wLo} {i : Nat} {k : Nat → Prop} (h : w_gR lo i k) : ∃ x, lo[i]? = some (some (.ref x)) ∧ k x := by
  unfold w_gR at h; split at h
  · exact ⟨_, by assumption, h⟩
  · exact h.elim
theorem w_o_e {w : va_W} {q : Nat} {k : Nat → Nat → List Value → Prop} (h : w_o w q k) : ∃ a ci fs, w[q]? = some (a, .inr (ci, fs)) ∧ k a ci fs := by
  unfold w_o at h; split at h
  · exact ⟨_, _, _, by assumption, h⟩
  · exact h.elim
theorem w_a_e {w : va_W} {q : Nat} {k : Nat → Nat → Nat → (Nat → Int32) → Prop} (h : w_a w q k) : ∃ a cA n f, w[q]? = some (a, .inl (cA, n, .inl f)) ∧ k a cA n f := by
  unfold w_a at h; split at h
  · exact ⟨_, _, _, _, by assumption, h⟩
  · exact h.elim
theorem w_aL_e {w : va_W} {q : Nat} {k : Nat → Nat → Nat → (Nat → Int64) → Prop} (h : w_aL w q k) : ∃ a cA n f, w[q]? = some (a, .inl (cA, n, .inr (.inl f))) ∧ k a cA n f := by
  unfold w_aL at h; split at h
  · exact ⟨_, _, _, _, by assumption, h⟩
  · exact h.elim
theorem w_f_e {fs : List Value} {i : Nat} {k : Value → Prop} (h : w_f fs i k) : ∃ v, fs[i]? = some v ∧ k v := by
  unfold w_f at h; split at h
  · exact ⟨_, by assumption, h⟩
  · exact h.elim
theorem w_c_e {cst : List wC} {i : Nat} {k : Nat → FieldType → Nat → (Nat → Int32) → Prop} (h : w_c cst i k) : ∃ t ty n f, cst[i]? = some (t, ty, n, f) ∧ k t ty n f := by
  unfold w_c at h; split at h
  · exact ⟨_, _, _, _, by assumption, h⟩
  · exact h.elim
def w_LR (ls : Array Slot) (nL : Nat) (lo : wLo) : Prop := ls.size = nL ∧ lv_wf ls ∧ lo.length = nL ∧ ∀ (i : Nat) (v : Value), lo[i]? = some (some v) → ls[i]? = some (.val v)
def w_en (lo : wLo) : List (Nat × Value) := (List.range lo.length).filterMap (fun i => match lo[i]? with
  | some (some v) => some (i, v)
  | _ => none)
theorem w_en_mem {lo : wLo} {q : Nat × Value} : q ∈ w_en lo ↔ lo[q.1]? = some (some q.2) := by
  unfold w_en
  rw [List.mem_filterMap]
  constructor
  · rintro ⟨i, -, h⟩
    split at h
    · cases h; assumption
    · cases h
  · intro h
    refine ⟨q.1, ?_, ?_⟩
    · rw [List.mem_range]
      exact (List.getElem?_eq_some_iff.mp h).1
    · rw [h]
theorem w_LR_has {ls : Array Slot} {nL : Nat} {lo : wLo} (h : w_LR ls nL lo) : lv_has ls nL (w_en lo) := ⟨h.1, h.2.1, fun q hq => h.2.2.2 q.1 q.2 (w_en_mem.mp hq)⟩
theorem w_s1_len (l : wLo) (i : Nat) (v : Value) : (w_s1 l i v).length = l.length := by
  induction l generalizing i with
  | nil => cases i <;> rfl
  | cons a l ih =>
    match i with
    | 0 => rfl
    | 1 => simp [w_s1, ih]
    | n + 2 => simp [w_s1, ih]
theorem w_s2_len (l : wLo) (i : Nat) (v : Value) : (w_s2 l i v).length = l.length := by
  induction l generalizing i with
  | nil => cases i <;> rfl
  | cons a l ih =>
    match i with
    | 0 => cases l <;> rfl
    | 1 => simp [w_s2, ih]
    | n + 2 => simp [w_s2, ih]
theorem w_cl_e {a : Option Value} {v : Value} (h : w_cl a = some v) : a = some v ∧ ¬ v.category = 2 := by
  unfold w_cl at h
  split at h
  · cases h
  · cases h
  · refine ⟨h, ?_⟩
    subst h
    cases v <;> simp_all [Value.category]
theorem w_s1_get (l : wLo) (i : Nat) (x : Value) : ∀ (j : Nat) (v : Value), (w_s1 l i x)[j]? = some (some v) → (j = i ∧ v = x) ∨ (j ≠ i ∧ l[j]? = some (some v) ∧ ¬ (j + 1 = i ∧ v.category = 2)) := by
  induction l generalizing i with
  | nil => intro j v h; cases i <;> simp [w_s1] at h
  | cons a l ih =>
    intro j v h
    match i with
    | 0 =>
      cases j with
      | zero => simp [w_s1] at h; exact Or.inl ⟨rfl, h.symm⟩
      | succ j => exact Or.inr ⟨by omega, by simpa [w_s1] using h, by omega⟩
    | 1 =>
      cases j with
      | zero =>
        simp [w_s1] at h
        obtain ⟨h1, h2⟩ := w_cl_e h
        exact Or.inr ⟨by omega, by simp [h1], fun z => h2 z.2⟩
      | succ j =>
        simp [w_s1] at h
        rcases ih 0 j v h with ⟨h1, h2⟩ | ⟨h1, h2, h3⟩
        · exact Or.inl ⟨by omega, h2⟩
        · exact Or.inr ⟨by omega, by simpa using h2, by omega⟩
    | n + 2 =>
      cases j with
      | zero =>
        simp [w_s1] at h
        exact Or.inr ⟨by omega, by simp [h], by omega⟩
      | succ j =>
        simp [w_s1] at h
        rcases ih (n + 1) j v h with ⟨h1, h2⟩ | ⟨h1, h2, h3⟩
        · exact Or.inl ⟨by omega, h2⟩
        · exact Or.inr ⟨by omega, by simpa using h2, by omega⟩
theorem w_h_get (l : wLo) (j : Nat) (v : Value) (h : (w_h l)[j]? = some (some v)) : j ≠ 0 ∧ l[j]? = some (some v) := by
  cases l with
  | nil => simp [w_h] at h
  | cons a l =>
    cases j with
    | zero => simp [w_h] at h
    | succ j => exact ⟨by omega, by simpa [w_h] using h⟩
theorem w_s2_get (l : wLo) (i : Nat) (x : Value) : ∀ (j : Nat) (v : Value), (w_s2 l i x)[j]? = some (some v) → (j = i ∧ v = x) ∨ (j ≠ i ∧ j ≠ i + 1 ∧ l[j]? = some (some v) ∧ ¬ (j + 1 = i ∧ v.category = 2)) := by
  induction l generalizing i with
  | nil => intro j v h; cases i <;> simp [w_s2] at h
  | cons a l ih =>
    intro j v h
    match i with
    | 0 =>
      cases j with
      | zero => simp [w_s2] at h; exact Or.inl ⟨rfl, h.symm⟩
      | succ j =>
        simp [w_s2] at h
        obtain ⟨h1, h2⟩ := w_h_get l j v h
        exact Or.inr ⟨by omega, by omega, by simpa using h2, by omega⟩
    | 1 =>
      cases j with
      | zero =>
        simp [w_s2] at h
        obtain ⟨h1, h2⟩ := w_cl_e h
        exact Or.inr ⟨by omega, by omega, by simp [h1], fun z => h2 z.2⟩
      | succ j =>
        simp [w_s2] at h
        rcases ih 0 j v h with ⟨h1, h2⟩ | ⟨h1, h1', h2, h3⟩
        · exact Or.inl ⟨by omega, h2⟩
        · exact Or.inr ⟨by omega, by omega, by simpa using h2, by omega⟩
    | n + 2 =>
      cases j with
      | zero =>
        simp [w_s2] at h
        exact Or.inr ⟨by omega, by omega, by simp [h], by omega⟩
      | succ j =>
        simp [w_s2] at h
        rcases ih (n + 1) j v h with ⟨h1, h2⟩ | ⟨h1, h1', h2, h3⟩
        · exact Or.inl ⟨by omega, h2⟩
        · exact Or.inr ⟨by omega, by omega, by simpa using h2, by omega⟩
theorem w_LR_s1 {ls ls' : Array Slot} {nL i : Nat} {x : Value} {lo : wLo} (h : w_LR ls nL lo) (h' : lv_has ls' nL ((i, x) :: (w_en lo).filter (fun q => !(q.1 == i) && !(q.1 + 1 == i && q.2.category == 2)))) : w_LR ls' nL (w_s1 lo i x) := by
  refine ⟨h'.1, h'.2.1, by rw [w_s1_len]; exact h.2.2.1, fun j v hj => ?_⟩
  rcases w_s1_get lo i x j v hj with ⟨rfl, rfl⟩ | ⟨h1, h2, h3⟩
  · exact h'.2.2 (j, v) List.mem_cons_self
  · refine h'.2.2 (j, v) (List.mem_cons_of_mem _ (List.mem_filter.mpr ⟨w_en_mem.mpr h2, ?_⟩))
    simp only [Bool.and_eq_true, Bool.not_eq_true', beq_eq_false_iff_ne, ne_eq, Bool.and_eq_false_iff]
    refine ⟨h1, ?_⟩
    by_cases hz : j + 1 = i
    · exact Or.inr fun z => h3 ⟨hz, z⟩
    · exact Or.inl hz
theorem w_LR_s2 {ls ls' : Array Slot} {nL i : Nat} {x : Value} {lo : wLo} (h : w_LR ls nL lo) (h' : lv_has ls' nL ((i, x) :: (w_en lo).filter (fun q => !(q.1 == i) && (!(q.1 == i + 1) && !(q.1 + 1 == i && q.2.category == 2))))) : w_LR ls' nL (w_s2 lo i x) := by
  refine ⟨h'.1, h'.2.1, by rw [w_s2_len]; exact h.2.2.1, fun j v hj => ?_⟩
  rcases w_s2_get lo i x j v hj with ⟨rfl, rfl⟩ | ⟨h1, h1', h2, h3⟩
  · exact h'.2.2 (j, v) List.mem_cons_self
  · refine h'.2.2 (j, v) (List.mem_cons_of_mem _ (List.mem_filter.mpr ⟨w_en_mem.mpr h2, ?_⟩))
    simp only [Bool.and_eq_true, Bool.not_eq_true', beq_eq_false_iff_ne, ne_eq, Bool.and_eq_false_iff]
    refine ⟨h1, h1', ?_⟩
    by_cases hz : j + 1 = i
    · exact Or.inr fun z => h3 ⟨hz, z⟩
    · exact Or.inl hz
end WPL
