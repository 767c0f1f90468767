section WRW
variable {cst : List wC} {stf : wF} {cI cC cL : Nat} {sp : Nat → wSp} {ret : Option FieldType} {Q : wK} {QX : wX} {J : wJp} {lo : wLo} {st : List Value} {w : va_W} {k : wLo → List Value → va_W → Prop}
theorem wr_iconst {len h1 h2 h3 : Nat} {n : Int} : wS cst stf cI cC cL sp ret Q QX J (.iconst n, len, h1, h2, h3) lo st w k = (k lo (.int (ii n) :: st) w) := rfl
theorem wr_bipush {len h1 h2 h3 : Nat} {n : Int} : wS cst stf cI cC cL sp ret Q QX J (.bipush n, len, h1, h2, h3) lo st w k = (k lo (.int (ii n) :: st) w) := rfl
theorem wr_sipush {len h1 h2 h3 : Nat} {n : Int} : wS cst stf cI cC cL sp ret Q QX J (.sipush n, len, h1, h2, h3) lo st w k = (k lo (.int (ii n) :: st) w) := rfl
theorem wr_lconst0 {len h1 h2 h3 : Nat} : wS cst stf cI cC cL sp ret Q QX J (.lconst 0, len, h1, h2, h3) lo st w k = (k lo (.long 0 :: st) w) := rfl
theorem wr_lconst1 {len h1 h2 h3 : Nat} : wS cst stf cI cC cL sp ret Q QX J (.lconst 1, len, h1, h2, h3) lo st w k = (k lo (.long 1 :: st) w) := rfl
theorem wr_ldc {len h1 h2 h3 : Nat} {n : Nat} : wS cst stf cI cC cL sp ret Q QX J (.ldc n, len, h1, h2, h3) lo st w k = (k lo (.int (ii h1) :: st) w) := rfl
theorem wr_ldc2_0 {n len h1 h3 : Nat} : wS cst stf cI cC cL sp ret Q QX J (.ldc2_w n, len, h1, 0, h3) lo st w k = (k lo (Value.long (Int64.ofNat h1) :: st) w) := rfl
theorem wr_ldc2_1 {n len h1 h3 : Nat} : wS cst stf cI cC cL sp ret Q QX J (.ldc2_w n, len, h1, 1, h3) lo st w k = (k lo (Value.double (UInt64.ofNat h1) :: st) w) := rfl
theorem wr_dconst0 {len h1 h2 h3 : Nat} : wS cst stf cI cC cL sp ret Q QX J (.dconst 0, len, h1, h2, h3) lo st w k = (k lo (.double FP.dconst0 :: st) w) := rfl
theorem wr_dconst1 {len h1 h2 h3 : Nat} : wS cst stf cI cC cL sp ret Q QX J (.dconst 1, len, h1, h2, h3) lo st w k = (k lo (.double FP.dconst1 :: st) w) := rfl
theorem wr_iload_n0 {len h1 h2 h3 : Nat} : wS cst stf cI cC cL sp ret Q QX J (.iload_n 0, len, h1, h2, h3) lo st w k = (w_gI lo 0 fun x => k lo (.int x :: st) w) := rfl
theorem wr_iload_n1 {len h1 h2 h3 : Nat} : wS cst stf cI cC cL sp ret Q QX J (.iload_n 1, len, h1, h2, h3) lo st w k = (w_gI lo 1 fun x => k lo (.int x :: st) w) := rfl
theorem wr_iload_n2 {len h1 h2 h3 : Nat} : wS cst stf cI cC cL sp ret Q QX J (.iload_n 2, len, h1, h2, h3) lo st w k = (w_gI lo 2 fun x => k lo (.int x :: st) w) := rfl
theorem wr_iload_n3 {len h1 h2 h3 : Nat} : wS cst stf cI cC cL sp ret Q QX J (.iload_n 3, len, h1, h2, h3) lo st w k = (w_gI lo 3 fun x => k lo (.int x :: st) w) := rfl
theorem wr_iload {len h1 h2 h3 : Nat} {n : Nat} : wS cst stf cI cC cL sp ret Q QX J (.iload n, len, h1, h2, h3) lo st w k = (w_gI lo n fun x => k lo (.int x :: st) w) := rfl
theorem wr_lload_n0 {len h1 h2 h3 : Nat} : wS cst stf cI cC cL sp ret Q QX J (.lload_n 0, len, h1, h2, h3) lo st w k = (w_gL lo 0 fun x => k lo (.long x :: st) w) := rfl
theorem wr_lload_n1 {len h1 h2 h3 : Nat} : wS cst stf cI cC cL sp ret Q QX J (.lload_n 1, len, h1, h2, h3) lo st w k = (w_gL lo 1 fun x => k lo (.long x :: st) w) := rfl
theorem wr_lload_n2 {len h1 h2 h3 : Nat} : wS cst stf cI cC cL sp ret Q QX J (.lload_n 2, len, h1, h2, h3) lo st w k = (w_gL lo 2 fun x => k lo (.long x :: st) w) := rfl
theorem wr_lload_n3 {len h1 h2 h3 : Nat} : wS cst stf cI cC cL sp ret Q QX J (.lload_n 3, len, h1, h2, h3) lo st w k = (w_gL lo 3 fun x => k lo (.long x :: st) w) := rfl
theorem wr_lload {len h1 h2 h3 : Nat} {n : Nat} : wS cst stf cI cC cL sp ret Q QX J (.lload n, len, h1, h2, h3) lo st w k = (w_gL lo n fun x => k lo (.long x :: st) w) := rfl
theorem wr_dload_n0 {len h1 h2 h3 : Nat} : wS cst stf cI cC cL sp ret Q QX J (.dload_n 0, len, h1, h2, h3) lo st w k = (w_gD lo 0 fun x => k lo (.double x :: st) w) := rfl
theorem wr_dload_n1 {len h1 h2 h3 : Nat} : wS cst stf cI cC cL sp ret Q QX J (.dload_n 1, len, h1, h2, h3) lo st w k = (w_gD lo 1 fun x => k lo (.double x :: st) w) := rfl
theorem wr_dload_n2 {len h1 h2 h3 : Nat} : wS cst stf cI cC cL sp ret Q QX J (.dload_n 2, len, h1, h2, h3) lo st w k = (w_gD lo 2 fun x => k lo (.double x :: st) w) := rfl
theorem wr_dload_n3 {len h1 h2 h3 : Nat} : wS cst stf cI cC cL sp ret Q QX J (.dload_n 3, len, h1, h2, h3) lo st w k = (w_gD lo 3 fun x => k lo (.double x :: st) w) := rfl
theorem wr_dload {len h1 h2 h3 : Nat} {n : Nat} : wS cst stf cI cC cL sp ret Q QX J (.dload n, len, h1, h2, h3) lo st w k = (w_gD lo n fun x => k lo (.double x :: st) w) := rfl
theorem wr_aload_n0 {len h1 h2 h3 : Nat} : wS cst stf cI cC cL sp ret Q QX J (.aload_n 0, len, h1, h2, h3) lo st w k = (w_gR lo 0 fun x => k lo (.ref x :: st) w) := rfl
theorem wr_aload_n1 {len h1 h2 h3 : Nat} : wS cst stf cI cC cL sp ret Q QX J (.aload_n 1, len, h1, h2, h3) lo st w k = (w_gR lo 1 fun x => k lo (.ref x :: st) w) := rfl
theorem wr_aload_n2 {len h1 h2 h3 : Nat} : wS cst stf cI cC cL sp ret Q QX J (.aload_n 2, len, h1, h2, h3) lo st w k = (w_gR lo 2 fun x => k lo (.ref x :: st) w) := rfl
theorem wr_aload_n3 {len h1 h2 h3 : Nat} : wS cst stf cI cC cL sp ret Q QX J (.aload_n 3, len, h1, h2, h3) lo st w k = (w_gR lo 3 fun x => k lo (.ref x :: st) w) := rfl
theorem wr_aload {len h1 h2 h3 : Nat} {n : Nat} : wS cst stf cI cC cL sp ret Q QX J (.aload n, len, h1, h2, h3) lo st w k = (w_gR lo n fun x => k lo (.ref x :: st) w) := rfl
theorem wr_istore_n0 {len h1 h2 h3 : Nat} : wS cst stf cI cC cL sp ret Q QX J (.istore_n 0, len, h1, h2, h3) lo st w k = (w_pI st fun x st => k (w_s1 lo 0 (.int x)) st w) := rfl
theorem wr_istore_n1 {len h1 h2 h3 : Nat} : wS cst stf cI cC cL sp ret Q QX J (.istore_n 1, len, h1, h2, h3) lo st w k = (w_pI st fun x st => k (w_s1 lo 1 (.int x)) st w) := rfl
theorem wr_istore_n2 {len h1 h2 h3 : Nat} : wS cst stf cI cC cL sp ret Q QX J (.istore_n 2, len, h1, h2, h3) lo st w k = (w_pI st fun x st => k (w_s1 lo 2 (.int x)) st w) := rfl
theorem wr_istore_n3 {len h1 h2 h3 : Nat} : wS cst stf cI cC cL sp ret Q QX J (.istore_n 3, len, h1, h2, h3) lo st w k = (w_pI st fun x st => k (w_s1 lo 3 (.int x)) st w) := rfl
theorem wr_istore {len h1 h2 h3 : Nat} {n : Nat} : wS cst stf cI cC cL sp ret Q QX J (.istore n, len, h1, h2, h3) lo st w k = (w_pI st fun x st => k (w_s1 lo n (.int x)) st w) := rfl
theorem wr_astore_n0 {len h1 h2 h3 : Nat} : wS cst stf cI cC cL sp ret Q QX J (.astore_n 0, len, h1, h2, h3) lo st w k = (w_pR st fun x st => k (w_s1 lo 0 (.ref x)) st w) := rfl
theorem wr_astore_n1 {len h1 h2 h3 : Nat} : wS cst stf cI cC cL sp ret Q QX J (.astore_n 1, len, h1, h2, h3) lo st w k = (w_pR st fun x st => k (w_s1 lo 1 (.ref x)) st w) := rfl
theorem wr_astore_n2 {len h1 h2 h3 : Nat} : wS cst stf cI cC cL sp ret Q QX J (.astore_n 2, len, h1, h2, h3) lo st w k = (w_pR st fun x st => k (w_s1 lo 2 (.ref x)) st w) := rfl
theorem wr_astore_n3 {len h1 h2 h3 : Nat} : wS cst stf cI cC cL sp ret Q QX J (.astore_n 3, len, h1, h2, h3) lo st w k = (w_pR st fun x st => k (w_s1 lo 3 (.ref x)) st w) := rfl
theorem wr_astore {len h1 h2 h3 : Nat} {n : Nat} : wS cst stf cI cC cL sp ret Q QX J (.astore n, len, h1, h2, h3) lo st w k = (w_pR st fun x st => k (w_s1 lo n (.ref x)) st w) := rfl
theorem wr_lstore_n0 {len h1 h2 h3 : Nat} : wS cst stf cI cC cL sp ret Q QX J (.lstore_n 0, len, h1, h2, h3) lo st w k = (w_pL st fun x st => k (w_s2 lo 0 (.long x)) st w) := rfl
theorem wr_lstore_n1 {len h1 h2 h3 : Nat} : wS cst stf cI cC cL sp ret Q QX J (.lstore_n 1, len, h1, h2, h3) lo st w k = (w_pL st fun x st => k (w_s2 lo 1 (.long x)) st w) := rfl
theorem wr_lstore_n2 {len h1 h2 h3 : Nat} : wS cst stf cI cC cL sp ret Q QX J (.lstore_n 2, len, h1, h2, h3) lo st w k = (w_pL st fun x st => k (w_s2 lo 2 (.long x)) st w) := rfl
theorem wr_lstore_n3 {len h1 h2 h3 : Nat} : wS cst stf cI cC cL sp ret Q QX J (.lstore_n 3, len, h1, h2, h3) lo st w k = (w_pL st fun x st => k (w_s2 lo 3 (.long x)) st w) := rfl
theorem wr_lstore {len h1 h2 h3 : Nat} {n : Nat} : wS cst stf cI cC cL sp ret Q QX J (.lstore n, len, h1, h2, h3) lo st w k = (w_pL st fun x st => k (w_s2 lo n (.long x)) st w) := rfl
theorem wr_dstore_n0 {len h1 h2 h3 : Nat} : wS cst stf cI cC cL sp ret Q QX J (.dstore_n 0, len, h1, h2, h3) lo st w k = (w_pD st fun x st => k (w_s2 lo 0 (.double x)) st w) := rfl
theorem wr_dstore_n1 {len h1 h2 h3 : Nat} : wS cst stf cI cC cL sp ret Q QX J (.dstore_n 1, len, h1, h2, h3) lo st w k = (w_pD st fun x st => k (w_s2 lo 1 (.double x)) st w) := rfl
theorem wr_dstore_n2 {len h1 h2 h3 : Nat} : wS cst stf cI cC cL sp ret Q QX J (.dstore_n 2, len, h1, h2, h3) lo st w k = (w_pD st fun x st => k (w_s2 lo 2 (.double x)) st w) := rfl
theorem wr_dstore_n3 {len h1 h2 h3 : Nat} : wS cst stf cI cC cL sp ret Q QX J (.dstore_n 3, len, h1, h2, h3) lo st w k = (w_pD st fun x st => k (w_s2 lo 3 (.double x)) st w) := rfl
theorem wr_dstore {len h1 h2 h3 : Nat} {n : Nat} : wS cst stf cI cC cL sp ret Q QX J (.dstore n, len, h1, h2, h3) lo st w k = (w_pD st fun x st => k (w_s2 lo n (.double x)) st w) := rfl
theorem wr_iinc {len h1 h2 h3 : Nat} {n : Nat} {z : Int} : wS cst stf cI cC cL sp ret Q QX J (.iinc n z, len, h1, h2, h3) lo st w k = (w_gI lo n fun x => k (w_s1 lo n (.int (x + ii z))) st w) := rfl
theorem wr_iadd {len h1 h2 h3 : Nat} : wS cst stf cI cC cL sp ret Q QX J (.iadd, len, h1, h2, h3) lo st w k = (w_pI st fun y st => w_pI st fun x st => k lo (.int (x + y) :: st) w) := rfl
theorem wr_isub {len h1 h2 h3 : Nat} : wS cst stf cI cC cL sp ret Q QX J (.isub, len, h1, h2, h3) lo st w k = (w_pI st fun y st => w_pI st fun x st => k lo (.int (x - y) :: st) w) := rfl
theorem wr_imul {len h1 h2 h3 : Nat} : wS cst stf cI cC cL sp ret Q QX J (.imul, len, h1, h2, h3) lo st w k = (w_pI st fun y st => w_pI st fun x st => k lo (.int (x * y) :: st) w) := rfl
theorem wr_iand {len h1 h2 h3 : Nat} : wS cst stf cI cC cL sp ret Q QX J (.iand, len, h1, h2, h3) lo st w k = (w_pI st fun y st => w_pI st fun x st => k lo (.int (x &&& y) :: st) w) := rfl
theorem wr_ior {len h1 h2 h3 : Nat} : wS cst stf cI cC cL sp ret Q QX J (.ior, len, h1, h2, h3) lo st w k = (w_pI st fun y st => w_pI st fun x st => k lo (.int (x ||| y) :: st) w) := rfl
theorem wr_irem {len h1 h2 h3 : Nat} : wS cst stf cI cC cL sp ret Q QX J (.irem, len, h1, h2, h3) lo st w k = (w_pI st fun y st => w_pI st fun x st => ¬ y = 0 ∧ k lo (.int (x - x / y * y) :: st) w) := rfl
theorem wr_idiv {len h1 h2 h3 : Nat} : wS cst stf cI cC cL sp ret Q QX J (.idiv, len, h1, h2, h3) lo st w k = (w_pI st fun y st => w_pI st fun x st => ¬ y = 0 ∧ k lo (.int (x / y) :: st) w) := rfl
theorem wr_ishr {len h1 h2 h3 : Nat} : wS cst stf cI cC cL sp ret Q QX J (.ishr, len, h1, h2, h3) lo st w k = (w_pI st fun y st => w_pI st fun x st => k lo (.int (x >>> (y &&& 31)) :: st) w) := rfl
theorem wr_ixor {len h1 h2 h3 : Nat} : wS cst stf cI cC cL sp ret Q QX J (.ixor, len, h1, h2, h3) lo st w k = (w_pI st fun y st => w_pI st fun x st => k lo (.int (x ^^^ y) :: st) w) := rfl
theorem wr_ishl {len h1 h2 h3 : Nat} : wS cst stf cI cC cL sp ret Q QX J (.ishl, len, h1, h2, h3) lo st w k = (w_pI st fun y st => w_pI st fun x st => k lo (.int (x <<< (y &&& 31)) :: st) w) := rfl
theorem wr_i2l {len h1 h2 h3 : Nat} : wS cst stf cI cC cL sp ret Q QX J (.i2l, len, h1, h2, h3) lo st w k = (w_pI st fun x st => k lo (.long x.toInt64 :: st) w) := rfl
theorem wr_i2c {len h1 h2 h3 : Nat} : wS cst stf cI cC cL sp ret Q QX J (.i2c, len, h1, h2, h3) lo st w k = (w_pI st fun x st => k lo (.int (x.toUInt32 % 65536).toInt32 :: st) w) := rfl
theorem wr_i2d {len h1 h2 h3 : Nat} : wS cst stf cI cC cL sp ret Q QX J (.i2d, len, h1, h2, h3) lo st w k = (w_pI st fun x st => k lo (.double (FP.i2d x) :: st) w) := rfl
theorem wr_d2l {len h1 h2 h3 : Nat} : wS cst stf cI cC cL sp ret Q QX J (.d2l, len, h1, h2, h3) lo st w k = (w_pD st fun x st => k lo (.long (FP.d2l x) :: st) w) := rfl
theorem wr_ladd {len h1 h2 h3 : Nat} : wS cst stf cI cC cL sp ret Q QX J (.ladd, len, h1, h2, h3) lo st w k = (w_pL st fun y st => w_pL st fun x st => k lo (.long (x + y) :: st) w) := rfl
theorem wr_lsub {len h1 h2 h3 : Nat} : wS cst stf cI cC cL sp ret Q QX J (.lsub, len, h1, h2, h3) lo st w k = (w_pL st fun y st => w_pL st fun x st => k lo (.long (x - y) :: st) w) := rfl
theorem wr_lmul {len h1 h2 h3 : Nat} : wS cst stf cI cC cL sp ret Q QX J (.lmul, len, h1, h2, h3) lo st w k = (w_pL st fun y st => w_pL st fun x st => k lo (.long (x * y) :: st) w) := rfl
theorem wr_lcmp {len h1 h2 h3 : Nat} : wS cst stf cI cC cL sp ret Q QX J (.lcmp, len, h1, h2, h3) lo st w k = (w_pL st fun y st => w_pL st fun x st => k lo (.int (lg_cmp x y) :: st) w) := rfl
theorem wr_ddiv {len h1 h2 h3 : Nat} : wS cst stf cI cC cL sp ret Q QX J (.ddiv, len, h1, h2, h3) lo st w k = (w_pD st fun y st => w_pD st fun x st => vf_n64 (FP.ddiv x y) ∧ k lo (.double (FP.ddiv x y) :: st) w) := rfl
theorem wr_dmul {len h1 h2 h3 : Nat} : wS cst stf cI cC cL sp ret Q QX J (.dmul, len, h1, h2, h3) lo st w k = (w_pD st fun y st => w_pD st fun x st => vf_n64 (FP.dmul x y) ∧ k lo (.double (FP.dmul x y) :: st) w) := rfl
theorem wr_dsub {len h1 h2 h3 : Nat} : wS cst stf cI cC cL sp ret Q QX J (.dsub, len, h1, h2, h3) lo st w k = (w_pD st fun y st => w_pD st fun x st => vf_n64 (FP.dsub x y) ∧ k lo (.double (FP.dsub x y) :: st) w) := rfl
theorem wr_dcmp {len h1 h2 h3 : Nat} {op : CmpOp} : wS cst stf cI cC cL sp ret Q QX J (.dcmp op, len, h1, h2, h3) lo st w k = (w_pD st fun y st => w_pD st fun x st => k lo (.int (Op.cmpValue (FP.dcmp x y) op) :: st) w) := rfl
theorem wr_dup {len h1 h2 h3 : Nat} : wS cst stf cI cC cL sp ret Q QX J (.dup, len, h1, h2, h3) lo st w k = (w_pV st fun v st => k lo (v :: v :: st) w) := rfl
theorem wr_pop {len h1 h2 h3 : Nat} : wS cst stf cI cC cL sp ret Q QX J (.pop, len, h1, h2, h3) lo st w k = (w_pV st fun _ st => k lo st w) := rfl
theorem wr_dup2 {len h1 h2 h3 : Nat} : wS cst stf cI cC cL sp ret Q QX J (.dup2, len, h1, h2, h3) lo st w k = (w_pV st fun v st => w_pV st fun v2 st => k lo (v :: v2 :: v :: v2 :: st) w) := rfl
theorem wr_getfield {len h1 h2 h3 : Nat} {n : Nat} : wS cst stf cI cC cL sp ret Q QX J (.getfield n, len, h1, h2, h3) lo st w k = (w_pR st fun x st => w_o w h1 fun a ci fs => x = a ∧ ci = h2 ∧ w_f fs h3 fun v => k lo (v :: st) w) := rfl
theorem wr_putfield {len h1 h2 h3 : Nat} {n : Nat} : wS cst stf cI cC cL sp ret Q QX J (.putfield n, len, h1, h2, h3) lo st w k = (w_pI st fun x st => w_pR st fun r st => w_o w h1 fun a ci fs => r = a ∧ ci = h2 ∧ h3 < fs.length ∧ k lo st (w.set h1 (a, .inr (ci, fs.set h3 (.int x))))) := rfl
theorem wr_getstatic {len h1 h2 h3 : Nat} {n : Nat} : wS cst stf cI cC cL sp ret Q QX J (.getstatic n, len, h1, h2, h3) lo st w k = (w_z stf h1 fun t => k lo (.ref t :: st) w) := rfl
theorem wr_iaload_0 {len h1 h3 : Nat} : wS cst stf cI cC cL sp ret Q QX J (.iaload, len, h1, 0, h3) lo st w k = (w_pI st fun i st => w_pR st fun r st => w_a w h1 fun a cA n f => r = a ∧ cA = cI ∧ vp_in i n ∧ k lo (.int (f i.toNatClampNeg) :: st) w) := rfl
theorem wr_iaload_1 {len h1 h3 : Nat} : wS cst stf cI cC cL sp ret Q QX J (.iaload, len, h1, 1, h3) lo st w k = (w_pI st fun i st => w_pR st fun r st => w_c cst h1 fun t ty n f => r = t ∧ ty = .int ∧ vp_in i n ∧ k lo (.int (f i.toNatClampNeg) :: st) w) := rfl
theorem wr_iastore {len h1 h2 h3 : Nat} : wS cst stf cI cC cL sp ret Q QX J (.iastore, len, h1, h2, h3) lo st w k = (w_pI st fun x st => w_pI st fun i st => w_pR st fun r st => w_a w h1 fun a cA n f => r = a ∧ cA = cI ∧ vp_in i n ∧ k lo st (w.set h1 (a, .inl (cA, n, .inl (upd f i.toNatClampNeg x))))) := rfl
theorem wr_arraylength_0 {len h1 h3 : Nat} : wS cst stf cI cC cL sp ret Q QX J (.arraylength, len, h1, 0, h3) lo st w k = (w_pR st fun r st => w_a w h1 fun a cA n _ => r = a ∧ cA = cI ∧ k lo (.int (ii n) :: st) w) := rfl
theorem wr_arraylength_1 {len h1 h3 : Nat} : wS cst stf cI cC cL sp ret Q QX J (.arraylength, len, h1, 1, h3) lo st w k = (w_pR st fun r st => w_c cst h1 fun t _ n _ => r = t ∧ k lo (.int (ii n) :: st) w) := rfl
theorem wr_goto {len h1 h2 h3 : Nat} {o : Int} : wS cst stf cI cC cL sp ret Q QX J (.goto o, len, h1, h2, h3) lo st w k = (J h1 lo st w) := rfl
theorem wr_ifCond_eq {len h1 h2 h3 : Nat} {o : Int} : wS cst stf cI cC cL sp ret Q QX J (.ifCond .eq o, len, h1, h2, h3) lo st w k = (w_pI st fun x st => w_jc .eq x (J h1 lo st w) (k lo st w)) := rfl
theorem wr_ifCond_ne {len h1 h2 h3 : Nat} {o : Int} : wS cst stf cI cC cL sp ret Q QX J (.ifCond .ne o, len, h1, h2, h3) lo st w k = (w_pI st fun x st => w_jc .ne x (J h1 lo st w) (k lo st w)) := rfl
theorem wr_ifCond_lt {len h1 h2 h3 : Nat} {o : Int} : wS cst stf cI cC cL sp ret Q QX J (.ifCond .lt o, len, h1, h2, h3) lo st w k = (w_pI st fun x st => w_jc .lt x (J h1 lo st w) (k lo st w)) := rfl
theorem wr_ifCond_ge {len h1 h2 h3 : Nat} {o : Int} : wS cst stf cI cC cL sp ret Q QX J (.ifCond .ge o, len, h1, h2, h3) lo st w k = (w_pI st fun x st => w_jc .ge x (J h1 lo st w) (k lo st w)) := rfl
theorem wr_ifCond_gt {len h1 h2 h3 : Nat} {o : Int} : wS cst stf cI cC cL sp ret Q QX J (.ifCond .gt o, len, h1, h2, h3) lo st w k = (w_pI st fun x st => w_jc .gt x (J h1 lo st w) (k lo st w)) := rfl
theorem wr_ifCond_le {len h1 h2 h3 : Nat} {o : Int} : wS cst stf cI cC cL sp ret Q QX J (.ifCond .le o, len, h1, h2, h3) lo st w k = (w_pI st fun x st => w_jc .le x (J h1 lo st w) (k lo st w)) := rfl
theorem wr_if_icmp_eq {len h1 h2 h3 : Nat} {o : Int} : wS cst stf cI cC cL sp ret Q QX J (.if_icmp .eq o, len, h1, h2, h3) lo st w k = (w_pI st fun y st => w_pI st fun x st => w_j2 .eq x y (J h1 lo st w) (k lo st w)) := rfl
theorem wr_if_icmp_ne {len h1 h2 h3 : Nat} {o : Int} : wS cst stf cI cC cL sp ret Q QX J (.if_icmp .ne o, len, h1, h2, h3) lo st w k = (w_pI st fun y st => w_pI st fun x st => w_j2 .ne x y (J h1 lo st w) (k lo st w)) := rfl
theorem wr_if_icmp_lt {len h1 h2 h3 : Nat} {o : Int} : wS cst stf cI cC cL sp ret Q QX J (.if_icmp .lt o, len, h1, h2, h3) lo st w k = (w_pI st fun y st => w_pI st fun x st => w_j2 .lt x y (J h1 lo st w) (k lo st w)) := rfl
theorem wr_if_icmp_ge {len h1 h2 h3 : Nat} {o : Int} : wS cst stf cI cC cL sp ret Q QX J (.if_icmp .ge o, len, h1, h2, h3) lo st w k = (w_pI st fun y st => w_pI st fun x st => w_j2 .ge x y (J h1 lo st w) (k lo st w)) := rfl
theorem wr_if_icmp_gt {len h1 h2 h3 : Nat} {o : Int} : wS cst stf cI cC cL sp ret Q QX J (.if_icmp .gt o, len, h1, h2, h3) lo st w k = (w_pI st fun y st => w_pI st fun x st => w_j2 .gt x y (J h1 lo st w) (k lo st w)) := rfl
theorem wr_if_icmp_le {len h1 h2 h3 : Nat} {o : Int} : wS cst stf cI cC cL sp ret Q QX J (.if_icmp .le o, len, h1, h2, h3) lo st w k = (w_pI st fun y st => w_pI st fun x st => w_j2 .le x y (J h1 lo st w) (k lo st w)) := rfl
theorem wr_invokevirtual {len h1 h2 h3 : Nat} {n : Nat} : wS cst stf cI cC cL sp ret Q QX J (.invokevirtual n, len, h1, h2, h3) lo st w k = (w_ca h3 st fun av rest => w_rl 8 rest ∧ sp h1 av (w_mid w h2) (fun v w' => k lo (v.toList ++ rest) (w_pre w h2 ++ (w' ++ w_post w h2))) (fun E w' => QX E (w_pre w h2 ++ (w' ++ w_post w h2)))) := rfl
theorem wr_invokestatic {len h1 h2 h3 : Nat} {n : Nat} : wS cst stf cI cC cL sp ret Q QX J (.invokestatic n, len, h1, h2, h3) lo st w k = (w_ca h3 st fun av rest => w_rl 8 rest ∧ sp h1 av (w_mid w h2) (fun v w' => k lo (v.toList ++ rest) (w_pre w h2 ++ (w' ++ w_post w h2))) (fun E w' => QX E (w_pre w h2 ++ (w' ++ w_post w h2)))) := rfl
theorem wr_ireturn {len h1 h2 h3 : Nat} : wS cst stf cI cC cL sp ret Q QX J (.ireturn, len, h1, h2, h3) lo st w k = (w_pI st fun x st => st = [] ∧ w_ri ret x ∧ Q (some (.int x)) w) := rfl
theorem wr_lreturn {len h1 h2 h3 : Nat} : wS cst stf cI cC cL sp ret Q QX J (.lreturn, len, h1, h2, h3) lo st w k = (w_pL st fun x st => st = [] ∧ ret = some .long ∧ Q (some (.long x)) w) := rfl
theorem wr_dreturn {len h1 h2 h3 : Nat} : wS cst stf cI cC cL sp ret Q QX J (.dreturn, len, h1, h2, h3) lo st w k = (w_pD st fun x st => st = [] ∧ ret = some .double ∧ Q (some (.double x)) w) := rfl
theorem wr_return_ {len h1 h2 h3 : Nat} : wS cst stf cI cC cL sp ret Q QX J (.return_, len, h1, h2, h3) lo st w k = (st = [] ∧ ret = none ∧ Q none w) := rfl
theorem wr_nil {pc : Nat} : wB cst stf cI cC cL sp ret Q QX J [] pc lo st w = J pc lo st w := rfl
theorem wr_cons {pc : Nat} {i : Instr} {len h1 h2 h3 : Nat} {b : List wAn} : wB cst stf cI cC cL sp ret Q QX J ((i, len, h1, h2, h3) :: b) pc lo st w = wS cst stf cI cC cL sp ret Q QX J (i, len, h1, h2, h3) lo st w (wB cst stf cI cC cL sp ret Q QX J b (pc + len)) := rfl
theorem wr_pI {x : Int32} {r : List Value} {k : Int32 → List Value → Prop} : w_pI (.int x :: r) k = k x r := rfl
theorem wr_pL {x : Int64} {r : List Value} {k : Int64 → List Value → Prop} : w_pL (.long x :: r) k = k x r := rfl
theorem wr_pD {x : UInt64} {r : List Value} {k : UInt64 → List Value → Prop} : w_pD (.double x :: r) k = k x r := rfl
theorem wr_pR {x : Nat} {r : List Value} {k : Nat → List Value → Prop} : w_pR (.ref x :: r) k = k x r := rfl
theorem wr_pVI {x : Int32} {r : List Value} {k : Value → List Value → Prop} : w_pV (.int x :: r) k = k (.int x) r := propext ⟨fun h => h.2, fun h => ⟨rfl, h⟩⟩
theorem wr_pVR {x : Nat} {r : List Value} {k : Value → List Value → Prop} : w_pV (.ref x :: r) k = k (.ref x) r := propext ⟨fun h => h.2, fun h => ⟨rfl, h⟩⟩
theorem wr_gI0 {x : Int32} {l : wLo} {k : Int32 → Prop} : w_gI (some (.int x) :: l) 0 k = k x := rfl
theorem wr_gIs {a : Option Value} {l : wLo} {n : Nat} {k : Int32 → Prop} : w_gI (a :: l) (n + 1) k = w_gI l n k := rfl
theorem wr_gL0 {x : Int64} {l : wLo} {k : Int64 → Prop} : w_gL (some (.long x) :: l) 0 k = k x := rfl
theorem wr_gLs {a : Option Value} {l : wLo} {n : Nat} {k : Int64 → Prop} : w_gL (a :: l) (n + 1) k = w_gL l n k := rfl
theorem wr_gD0 {x : UInt64} {l : wLo} {k : UInt64 → Prop} : w_gD (some (.double x) :: l) 0 k = k x := rfl
theorem wr_gDs {a : Option Value} {l : wLo} {n : Nat} {k : UInt64 → Prop} : w_gD (a :: l) (n + 1) k = w_gD l n k := rfl
theorem wr_gR0 {x : Nat} {l : wLo} {k : Nat → Prop} : w_gR (some (.ref x) :: l) 0 k = k x := rfl
theorem wr_gRs {a : Option Value} {l : wLo} {n : Nat} {k : Nat → Prop} : w_gR (a :: l) (n + 1) k = w_gR l n k := rfl
theorem wr_s10 {a : Option Value} {l : wLo} {v : Value} : w_s1 (a :: l) 0 v = some v :: l := by cases l <;> rfl
theorem wr_s11I {x : Int32} {l : wLo} {v : Value} : w_s1 (some (.int x) :: l) 1 v = some (.int x) :: w_s1 l 0 v := rfl
theorem wr_s11R {x : Nat} {l : wLo} {v : Value} : w_s1 (some (.ref x) :: l) 1 v = some (.ref x) :: w_s1 l 0 v := rfl
theorem wr_s11N {l : wLo} {v : Value} : w_s1 (none :: l) 1 v = none :: w_s1 l 0 v := rfl
theorem wr_s11L {x : Int64} {l : wLo} {v : Value} : w_s1 (some (.long x) :: l) 1 v = none :: w_s1 l 0 v := rfl
theorem wr_s1s {a : Option Value} {l : wLo} {n : Nat} {v : Value} : w_s1 (a :: l) (n + 2) v = a :: w_s1 l (n + 1) v := rfl
theorem wr_s20 {a b : Option Value} {l : wLo} {v : Value} : w_s2 (a :: b :: l) 0 v = some v :: none :: l := rfl
theorem wr_s21I {x : Int32} {l : wLo} {v : Value} : w_s2 (some (.int x) :: l) 1 v = some (.int x) :: w_s2 l 0 v := rfl
theorem wr_s21R {x : Nat} {l : wLo} {v : Value} : w_s2 (some (.ref x) :: l) 1 v = some (.ref x) :: w_s2 l 0 v := rfl
theorem wr_s21N {l : wLo} {v : Value} : w_s2 (none :: l) 1 v = none :: w_s2 l 0 v := rfl
theorem wr_s2s {a : Option Value} {l : wLo} {n : Nat} {v : Value} : w_s2 (a :: l) (n + 2) v = a :: w_s2 l (n + 1) v := rfl
theorem wr_o0 {a ci : Nat} {fs : List Value} {l : va_W} {k : Nat → Nat → List Value → Prop} : w_o ((a, .inr (ci, fs)) :: l) 0 k = k a ci fs := rfl
theorem wr_os {a : Nat × va_E} {l : va_W} {n : Nat} {k : Nat → Nat → List Value → Prop} : w_o (a :: l) (n + 1) k = w_o l n k := rfl
theorem wr_a0 {a cA n : Nat} {f : Nat → Int32} {l : va_W} {k : Nat → Nat → Nat → (Nat → Int32) → Prop} : w_a ((a, .inl (cA, n, .inl f)) :: l) 0 k = k a cA n f := rfl
theorem wr_as {a : Nat × va_E} {l : va_W} {n : Nat} {k : Nat → Nat → Nat → (Nat → Int32) → Prop} : w_a (a :: l) (n + 1) k = w_a l n k := rfl
theorem wr_f0 {v : Value} {l : List Value} {k : Value → Prop} : w_f (v :: l) 0 k = k v := rfl
theorem wr_fs {v : Value} {l : List Value} {n : Nat} {k : Value → Prop} : w_f (v :: l) (n + 1) k = w_f l n k := rfl
theorem wr_c0 {t : Nat} {ty : FieldType} {n : Nat} {f : Nat → Int32} {l : List wC} {k : Nat → FieldType → Nat → (Nat → Int32) → Prop} : w_c ((t, ty, n, f) :: l) 0 k = k t ty n f := rfl
theorem wr_cs {a : wC} {l : List wC} {n : Nat} {k : Nat → FieldType → Nat → (Nat → Int32) → Prop} : w_c (a :: l) (n + 1) k = w_c l n k := rfl
theorem wr_mid0 {w : va_W} : w_mid w 0 = w := rfl
theorem wr_mid1 {w : va_W} : w_mid w 1 = [] := rfl
theorem wr_mids {w : va_W} {h : Nat} : w_mid w (h + 2) = (w.drop ((h + 2) / 100)).take ((h + 2) % 100) := rfl
theorem wr_pre0 {w : va_W} : w_pre w 0 = [] := rfl
theorem wr_pre1 {w : va_W} : w_pre w 1 = w := rfl
theorem wr_pres {w : va_W} {h : Nat} : w_pre w (h + 2) = w.take ((h + 2) / 100) := rfl
theorem wr_post0 {w : va_W} : w_post w 0 = [] := rfl
theorem wr_post1 {w : va_W} : w_post w 1 = [] := rfl
theorem wr_posts {w : va_W} {h : Nat} : w_post w (h + 2) = w.drop ((h + 2) / 100 + (h + 2) % 100) := rfl
theorem wr_riI {x : Int32} : w_ri (some .int) x = True := rfl
def w_b (x : Int32) : Prop := x = 0 ∨ x = 1
theorem wr_riB {x : Int32} : w_ri (some .boolean) x = w_b x := rfl
theorem wr_b0 : w_b (ii 0) = True := eq_true (Or.inl rfl)
theorem wr_b1 : w_b (ii 1) = True := eq_true (Or.inr rfl)
theorem wr_inI {x : Int32} {vs : List Value} {n : Nat} : w_in (.int x :: vs) n = some (.int x) :: w_in vs (n - 1) := rfl
theorem wr_inR {x : Nat} {vs : List Value} {n : Nat} : w_in (.ref x :: vs) n = some (.ref x) :: w_in vs (n - 1) := rfl
theorem wr_inL {x : Int64} {vs : List Value} {n : Nat} : w_in (.long x :: vs) n = some (.long x) :: none :: w_in vs (n - 2) := rfl
theorem wr_inD {x : UInt64} {vs : List Value} {n : Nat} : w_in (.double x :: vs) n = some (.double x) :: none :: w_in vs (n - 2) := rfl
theorem wr_inN {n : Nat} : w_in [] n = List.replicate n none := by unfold w_in; rfl
theorem wr_jc_eq {x : Int32} {t f : Prop} : w_jc .eq x t f = ((x = 0 → t) ∧ (¬ x = 0 → f)) := rfl
theorem wr_jc_ne {x : Int32} {t f : Prop} : w_jc .ne x t f = ((¬ x = 0 → t) ∧ (x = 0 → f)) := rfl
theorem wr_jc_lt {x : Int32} {t f : Prop} : w_jc .lt x t f = ((x < 0 → t) ∧ (¬ x < 0 → f)) := rfl
theorem wr_jc_ge {x : Int32} {t f : Prop} : w_jc .ge x t f = ((0 ≤ x → t) ∧ (¬ 0 ≤ x → f)) := rfl
theorem wr_jc_gt {x : Int32} {t f : Prop} : w_jc .gt x t f = ((0 < x → t) ∧ (¬ 0 < x → f)) := rfl
theorem wr_jc_le {x : Int32} {t f : Prop} : w_jc .le x t f = ((x ≤ 0 → t) ∧ (¬ x ≤ 0 → f)) := rfl
theorem wr_j2_eq {x y : Int32} {t f : Prop} : w_j2 .eq x y t f = ((x = y → t) ∧ (¬ x = y → f)) := rfl
theorem wr_j2_ne {x y : Int32} {t f : Prop} : w_j2 .ne x y t f = ((¬ x = y → t) ∧ (x = y → f)) := rfl
theorem wr_j2_lt {x y : Int32} {t f : Prop} : w_j2 .lt x y t f = ((x < y → t) ∧ (¬ x < y → f)) := rfl
theorem wr_j2_ge {x y : Int32} {t f : Prop} : w_j2 .ge x y t f = ((y ≤ x → t) ∧ (¬ y ≤ x → f)) := rfl
theorem wr_j2_gt {x y : Int32} {t f : Prop} : w_j2 .gt x y t f = ((y < x → t) ∧ (¬ y < x → f)) := rfl
theorem wr_j2_le {x y : Int32} {t f : Prop} : w_j2 .le x y t f = ((x ≤ y → t) ∧ (¬ x ≤ y → f)) := rfl
theorem wr_rl0 {n : Nat} : w_rl n [] = True := rfl
theorem wr_rlI {n : Nat} {x : Int32} {t : List Value} : w_rl n (.int x :: t) = (1 ≤ n ∧ w_rl (n - 1) t) := rfl
theorem wr_rlR {n : Nat} {x : Nat} {t : List Value} : w_rl n (.ref x :: t) = (1 ≤ n ∧ w_rl (n - 1) t) := rfl
theorem wr_rlL {n : Nat} {x : Int64} {t : List Value} : w_rl n (.long x :: t) = (2 ≤ n ∧ w_rl (n - 2) t) := rfl
theorem wr_rlD {n : Nat} {x : UInt64} {t : List Value} : w_rl n (.double x :: t) = (2 ≤ n ∧ w_rl (n - 2) t) := rfl
theorem wr_ts {v : Value} : (some v : Option Value).toList = [v] := rfl
theorem wr_tn : (none : Option Value).toList = [] := rfl
theorem wr_ca0 {r : List Value} {k : List Value → List Value → Prop} : w_ca 0 (r) k = k [] r := propext ⟨fun h => h.2, fun h => ⟨by simp, h⟩⟩
theorem wr_ca1 {a0 : Value} {r : List Value} {k : List Value → List Value → Prop} : w_ca 1 (a0 :: r) k = k [a0] r := propext ⟨fun h => h.2, fun h => ⟨by simp, h⟩⟩
theorem wr_ca2 {a0 a1 : Value} {r : List Value} {k : List Value → List Value → Prop} : w_ca 2 (a0 :: a1 :: r) k = k [a1, a0] r := propext ⟨fun h => h.2, fun h => ⟨by simp, h⟩⟩
theorem wr_ca3 {a0 a1 a2 : Value} {r : List Value} {k : List Value → List Value → Prop} : w_ca 3 (a0 :: a1 :: a2 :: r) k = k [a2, a1, a0] r := propext ⟨fun h => h.2, fun h => ⟨by simp, h⟩⟩
theorem wr_ca4 {a0 a1 a2 a3 : Value} {r : List Value} {k : List Value → List Value → Prop} : w_ca 4 (a0 :: a1 :: a2 :: a3 :: r) k = k [a3, a2, a1, a0] r := propext ⟨fun h => h.2, fun h => ⟨by simp, h⟩⟩
theorem wr_ca5 {a0 a1 a2 a3 a4 : Value} {r : List Value} {k : List Value → List Value → Prop} : w_ca 5 (a0 :: a1 :: a2 :: a3 :: a4 :: r) k = k [a4, a3, a2, a1, a0] r := propext ⟨fun h => h.2, fun h => ⟨by simp, h⟩⟩
theorem wr_ca6 {a0 a1 a2 a3 a4 a5 : Value} {r : List Value} {k : List Value → List Value → Prop} : w_ca 6 (a0 :: a1 :: a2 :: a3 :: a4 :: a5 :: r) k = k [a5, a4, a3, a2, a1, a0] r := propext ⟨fun h => h.2, fun h => ⟨by simp, h⟩⟩
theorem wr_ca7 {a0 a1 a2 a3 a4 a5 a6 : Value} {r : List Value} {k : List Value → List Value → Prop} : w_ca 7 (a0 :: a1 :: a2 :: a3 :: a4 :: a5 :: a6 :: r) k = k [a6, a5, a4, a3, a2, a1, a0] r := propext ⟨fun h => h.2, fun h => ⟨by simp, h⟩⟩
theorem wr_ca8 {a0 a1 a2 a3 a4 a5 a6 a7 : Value} {r : List Value} {k : List Value → List Value → Prop} : w_ca 8 (a0 :: a1 :: a2 :: a3 :: a4 :: a5 :: a6 :: a7 :: r) k = k [a7, a6, a5, a4, a3, a2, a1, a0] r := propext ⟨fun h => h.2, fun h => ⟨by simp, h⟩⟩
end WRW
