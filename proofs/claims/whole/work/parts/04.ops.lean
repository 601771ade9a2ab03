/-! one lemma an instruction: what does not touch the heap -/
section Ops
variable {G : gG} {mi : MI} {d mc ms : Nat} {K : aR → aH → Prop} {pc : Nat}
def o_iadd (k : aP) : aP := fun kc ks L st h => match st with
  | .int y :: .int x :: r => k kc ks L (.int (x + y) :: r) h
  | _ => False
theorem s_iadd {k : aP} (dd : decode (mB mi) pc = .ok (.iadd, 1)) (n : aSo G mi d mc ms K k (pc + 1)) : aSo G mi d mc ms K (o_iadd k) pc := by
  intro kc ks L st h hk p e R s m args below meth c Q M F H locs cells slots ls hR hl h1 h2 hL
  unfold o_iadd at hk
  split at hk
  · exact lv_iadd M.1 M.2.1 dd (n _ _ _ _ _ hk p e R s m args below meth c Q M F H locs cells slots ls hR hl h1 h2 hL)
  · exact hk.elim
def o_isub (k : aP) : aP := fun kc ks L st h => match st with
  | .int y :: .int x :: r => k kc ks L (.int (x - y) :: r) h
  | _ => False
theorem s_isub {k : aP} (dd : decode (mB mi) pc = .ok (.isub, 1)) (n : aSo G mi d mc ms K k (pc + 1)) : aSo G mi d mc ms K (o_isub k) pc := by
  intro kc ks L st h hk p e R s m args below meth c Q M F H locs cells slots ls hR hl h1 h2 hL
  unfold o_isub at hk
  split at hk
  · exact lv_isub M.1 M.2.1 dd (n _ _ _ _ _ hk p e R s m args below meth c Q M F H locs cells slots ls hR hl h1 h2 hL)
  · exact hk.elim
def o_imul (k : aP) : aP := fun kc ks L st h => match st with
  | .int y :: .int x :: r => k kc ks L (.int (x * y) :: r) h
  | _ => False
theorem s_imul {k : aP} (dd : decode (mB mi) pc = .ok (.imul, 1)) (n : aSo G mi d mc ms K k (pc + 1)) : aSo G mi d mc ms K (o_imul k) pc := by
  intro kc ks L st h hk p e R s m args below meth c Q M F H locs cells slots ls hR hl h1 h2 hL
  unfold o_imul at hk
  split at hk
  · exact lv_imul M.1 M.2.1 dd (n _ _ _ _ _ hk p e R s m args below meth c Q M F H locs cells slots ls hR hl h1 h2 hL)
  · exact hk.elim
def o_iand (k : aP) : aP := fun kc ks L st h => match st with
  | .int y :: .int x :: r => k kc ks L (.int (x &&& y) :: r) h
  | _ => False
theorem s_iand {k : aP} (dd : decode (mB mi) pc = .ok (.iand, 1)) (n : aSo G mi d mc ms K k (pc + 1)) : aSo G mi d mc ms K (o_iand k) pc := by
  intro kc ks L st h hk p e R s m args below meth c Q M F H locs cells slots ls hR hl h1 h2 hL
  unfold o_iand at hk
  split at hk
  · exact lv_iand M.1 M.2.1 dd (n _ _ _ _ _ hk p e R s m args below meth c Q M F H locs cells slots ls hR hl h1 h2 hL)
  · exact hk.elim
def o_ladd (k : aP) : aP := fun kc ks L st h => match st with
  | .long y :: .long x :: r => k kc ks L (.long (x + y) :: r) h
  | _ => False
theorem s_ladd {k : aP} (dd : decode (mB mi) pc = .ok (.ladd, 1)) (n : aSo G mi d mc ms K k (pc + 1)) : aSo G mi d mc ms K (o_ladd k) pc := by
  intro kc ks L st h hk p e R s m args below meth c Q M F H locs cells slots ls hR hl h1 h2 hL
  unfold o_ladd at hk
  split at hk
  · exact lv_ladd M.1 M.2.1 dd (n _ _ _ _ _ hk p e R s m args below meth c Q M F H locs cells slots ls hR hl h1 h2 hL)
  · exact hk.elim
def o_lsub (k : aP) : aP := fun kc ks L st h => match st with
  | .long y :: .long x :: r => k kc ks L (.long (x - y) :: r) h
  | _ => False
theorem s_lsub {k : aP} (dd : decode (mB mi) pc = .ok (.lsub, 1)) (n : aSo G mi d mc ms K k (pc + 1)) : aSo G mi d mc ms K (o_lsub k) pc := by
  intro kc ks L st h hk p e R s m args below meth c Q M F H locs cells slots ls hR hl h1 h2 hL
  unfold o_lsub at hk
  split at hk
  · exact lv_lsub M.1 M.2.1 dd (n _ _ _ _ _ hk p e R s m args below meth c Q M F H locs cells slots ls hR hl h1 h2 hL)
  · exact hk.elim
def o_lmul (k : aP) : aP := fun kc ks L st h => match st with
  | .long y :: .long x :: r => k kc ks L (.long (x * y) :: r) h
  | _ => False
theorem s_lmul {k : aP} (dd : decode (mB mi) pc = .ok (.lmul, 1)) (n : aSo G mi d mc ms K k (pc + 1)) : aSo G mi d mc ms K (o_lmul k) pc := by
  intro kc ks L st h hk p e R s m args below meth c Q M F H locs cells slots ls hR hl h1 h2 hL
  unfold o_lmul at hk
  split at hk
  · exact lv_lmul M.1 M.2.1 dd (n _ _ _ _ _ hk p e R s m args below meth c Q M F H locs cells slots ls hR hl h1 h2 hL)
  · exact hk.elim
def o_land (k : aP) : aP := fun kc ks L st h => match st with
  | .long y :: .long x :: r => k kc ks L (.long (x &&& y) :: r) h
  | _ => False
theorem s_land {k : aP} (dd : decode (mB mi) pc = .ok (.land, 1)) (n : aSo G mi d mc ms K k (pc + 1)) : aSo G mi d mc ms K (o_land k) pc := by
  intro kc ks L st h hk p e R s m args below meth c Q M F H locs cells slots ls hR hl h1 h2 hL
  unfold o_land at hk
  split at hk
  · exact lv_land M.1 M.2.1 dd (n _ _ _ _ _ hk p e R s m args below meth c Q M F H locs cells slots ls hR hl h1 h2 hL)
  · exact hk.elim
def o_lxor (k : aP) : aP := fun kc ks L st h => match st with
  | .long y :: .long x :: r => k kc ks L (.long (x ^^^ y) :: r) h
  | _ => False
theorem s_lxor {k : aP} (dd : decode (mB mi) pc = .ok (.lxor, 1)) (n : aSo G mi d mc ms K k (pc + 1)) : aSo G mi d mc ms K (o_lxor k) pc := by
  intro kc ks L st h hk p e R s m args below meth c Q M F H locs cells slots ls hR hl h1 h2 hL
  unfold o_lxor at hk
  split at hk
  · exact lv_lxor M.1 M.2.1 dd (n _ _ _ _ _ hk p e R s m args below meth c Q M F H locs cells slots ls hR hl h1 h2 hL)
  · exact hk.elim
def o_ineg (k : aP) : aP := fun kc ks L st h => match st with
  | .int x :: r => k kc ks L (.int (-x) :: r) h
  | _ => False
theorem s_ineg {k : aP} (dd : decode (mB mi) pc = .ok (.ineg, 1)) (n : aSo G mi d mc ms K k (pc + 1)) : aSo G mi d mc ms K (o_ineg k) pc := by
  intro kc ks L st h hk p e R s m args below meth c Q M F H locs cells slots ls hR hl h1 h2 hL
  unfold o_ineg at hk
  split at hk
  · exact lv_ineg M.1 M.2.1 dd (n _ _ _ _ _ hk p e R s m args below meth c Q M F H locs cells slots ls hR hl h1 h2 hL)
  · exact hk.elim
def o_lneg (k : aP) : aP := fun kc ks L st h => match st with
  | .long x :: r => k kc ks L (.long (-x) :: r) h
  | _ => False
theorem s_lneg {k : aP} (dd : decode (mB mi) pc = .ok (.lneg, 1)) (n : aSo G mi d mc ms K k (pc + 1)) : aSo G mi d mc ms K (o_lneg k) pc := by
  intro kc ks L st h hk p e R s m args below meth c Q M F H locs cells slots ls hR hl h1 h2 hL
  unfold o_lneg at hk
  split at hk
  · exact lv_lneg M.1 M.2.1 dd (n _ _ _ _ _ hk p e R s m args below meth c Q M F H locs cells slots ls hR hl h1 h2 hL)
  · exact hk.elim
def o_i2l (k : aP) : aP := fun kc ks L st h => match st with
  | .int x :: r => k kc ks L (.long x.toInt64 :: r) h
  | _ => False
theorem s_i2l {k : aP} (dd : decode (mB mi) pc = .ok (.i2l, 1)) (n : aSo G mi d mc ms K k (pc + 1)) : aSo G mi d mc ms K (o_i2l k) pc := by
  intro kc ks L st h hk p e R s m args below meth c Q M F H locs cells slots ls hR hl h1 h2 hL
  unfold o_i2l at hk
  split at hk
  · exact lv_i2l M.1 M.2.1 dd rfl (n _ _ _ _ _ hk p e R s m args below meth c Q M F H locs cells slots ls hR hl h1 h2 hL)
  · exact hk.elim
def o_l2i (k : aP) : aP := fun kc ks L st h => match st with
  | .long x :: r => k kc ks L (.int x.toInt32 :: r) h
  | _ => False
theorem s_l2i {k : aP} (dd : decode (mB mi) pc = .ok (.l2i, 1)) (n : aSo G mi d mc ms K k (pc + 1)) : aSo G mi d mc ms K (o_l2i k) pc := by
  intro kc ks L st h hk p e R s m args below meth c Q M F H locs cells slots ls hR hl h1 h2 hL
  unfold o_l2i at hk
  split at hk
  · exact lv_l2i M.1 M.2.1 dd rfl (n _ _ _ _ _ hk p e R s m args below meth c Q M F H locs cells slots ls hR hl h1 h2 hL)
  · exact hk.elim
def o_i2f (k : aP) : aP := fun kc ks L st h => match st with
  | .int x :: r => k kc ks L (.float (FP.i2f x) :: r) h
  | _ => False
theorem s_i2f {k : aP} (dd : decode (mB mi) pc = .ok (.i2f, 1)) (n : aSo G mi d mc ms K k (pc + 1)) : aSo G mi d mc ms K (o_i2f k) pc := by
  intro kc ks L st h hk p e R s m args below meth c Q M F H locs cells slots ls hR hl h1 h2 hL
  unfold o_i2f at hk
  split at hk
  · exact lv_i2f M.1 M.2.1 dd (n _ _ _ _ _ hk p e R s m args below meth c Q M F H locs cells slots ls hR hl h1 h2 hL)
  · exact hk.elim
def o_l2d (k : aP) : aP := fun kc ks L st h => match st with
  | .long x :: r => k kc ks L (.double (FP.l2d x) :: r) h
  | _ => False
theorem s_l2d {k : aP} (dd : decode (mB mi) pc = .ok (.l2d, 1)) (n : aSo G mi d mc ms K k (pc + 1)) : aSo G mi d mc ms K (o_l2d k) pc := by
  intro kc ks L st h hk p e R s m args below meth c Q M F H locs cells slots ls hR hl h1 h2 hL
  unfold o_l2d at hk
  split at hk
  · exact lv_l2d M.1 M.2.1 dd (n _ _ _ _ _ hk p e R s m args below meth c Q M F H locs cells slots ls hR hl h1 h2 hL)
  · exact hk.elim
def o_lcmp (k : aP) : aP := fun kc ks L st h => match st with
  | .long y :: .long x :: r => k kc ks L (.int (lg_cmp x y) :: r) h
  | _ => False
theorem s_lcmp {k : aP} (dd : decode (mB mi) pc = .ok (.lcmp, 1)) (n : aSo G mi d mc ms K k (pc + 1)) : aSo G mi d mc ms K (o_lcmp k) pc := by
  intro kc ks L st h hk p e R s m args below meth c Q M F H locs cells slots ls hR hl h1 h2 hL
  unfold o_lcmp at hk
  split at hk
  · exact W.lcmp M.1 M.2.1 dd (n _ _ _ _ _ hk p e R s m args below meth c Q M F H locs cells slots ls hR hl h1 h2 hL)
  · exact hk.elim
def o_dcmp (op : CmpOp) (k : aP) : aP := fun kc ks L st h => match st with
  | .double y :: .double x :: r => k kc ks L (.int (Op.cmpValue (FP.dcmp x y) op) :: r) h
  | _ => False
theorem s_dcmp {k : aP} {op : CmpOp} (dd : decode (mB mi) pc = .ok (.dcmp op, 1)) (n : aSo G mi d mc ms K k (pc + 1)) : aSo G mi d mc ms K (o_dcmp op k) pc := by
  intro kc ks L st h hk p e R s m args below meth c Q M F H locs cells slots ls hR hl h1 h2 hL
  unfold o_dcmp at hk
  split at hk
  · exact lv_dcmp M.1 M.2.1 dd (n _ _ _ _ _ hk p e R s m args below meth c Q M F H locs cells slots ls hR hl h1 h2 hL)
  · exact hk.elim
def o_fcmp (op : CmpOp) (k : aP) : aP := fun kc ks L st h => match st with
  | .float y :: .float x :: r => k kc ks L (.int (Op.cmpValue (FP.fcmp x y) op) :: r) h
  | _ => False
theorem s_fcmp {k : aP} {op : CmpOp} (dd : decode (mB mi) pc = .ok (.fcmp op, 1)) (n : aSo G mi d mc ms K k (pc + 1)) : aSo G mi d mc ms K (o_fcmp op k) pc := by
  intro kc ks L st h hk p e R s m args below meth c Q M F H locs cells slots ls hR hl h1 h2 hL
  unfold o_fcmp at hk
  split at hk
  · exact lv_fcmp M.1 M.2.1 dd (n _ _ _ _ _ hk p e R s m args below meth c Q M F H locs cells slots ls hR hl h1 h2 hL)
  · exact hk.elim
def o_ldiv (k : aP) : aP := fun kc ks L st h => match st with
  | .long y :: .long x :: r => ¬ y = 0 ∧ k kc ks L (.long (x / y) :: r) h
  | _ => False
theorem s_ldiv {k : aP} (dd : decode (mB mi) pc = .ok (.ldiv, 1)) (n : aSo G mi d mc ms K k (pc + 1)) : aSo G mi d mc ms K (o_ldiv k) pc := by
  intro kc ks L st h hk p e R s m args below meth c Q M F H locs cells slots ls hR hl h1 h2 hL
  unfold o_ldiv at hk
  split at hk
  · exact lv_ldiv M.1 M.2.1 dd hk.1 (n _ _ _ _ _ hk.2 p e R s m args below meth c Q M F H locs cells slots ls hR hl h1 h2 hL)
  · exact hk.elim
def o_lrem (k : aP) : aP := fun kc ks L st h => match st with
  | .long y :: .long x :: r => ¬ y = 0 ∧ k kc ks L (.long (x - x / y * y) :: r) h
  | _ => False
theorem s_lrem {k : aP} (dd : decode (mB mi) pc = .ok (.lrem, 1)) (n : aSo G mi d mc ms K k (pc + 1)) : aSo G mi d mc ms K (o_lrem k) pc := by
  intro kc ks L st h hk p e R s m args below meth c Q M F H locs cells slots ls hR hl h1 h2 hL
  unfold o_lrem at hk
  split at hk
  · exact lv_lrem M.1 M.2.1 dd hk.1 (n _ _ _ _ _ hk.2 p e R s m args below meth c Q M F H locs cells slots ls hR hl h1 h2 hL)
  · exact hk.elim
def o_fdiv (k : aP) : aP := fun kc ks L st h => match st with
  | .float y :: .float x :: r => vf_n32 (FP.fdiv x y) ∧ k kc ks L (.float (FP.fdiv x y) :: r) h
  | _ => False
theorem s_fdiv {k : aP} (dd : decode (mB mi) pc = .ok (.fdiv, 1)) (n : aSo G mi d mc ms K k (pc + 1)) : aSo G mi d mc ms K (o_fdiv k) pc := by
  intro kc ks L st h hk p e R s m args below meth c Q M F H locs cells slots ls hR hl h1 h2 hL
  unfold o_fdiv at hk
  split at hk
  · exact lv_fdiv M.1 M.2.1 dd hk.1 (n _ _ _ _ _ hk.2 p e R s m args below meth c Q M F H locs cells slots ls hR hl h1 h2 hL)
  · exact hk.elim
def o_ddiv (k : aP) : aP := fun kc ks L st h => match st with
  | .double y :: .double x :: r => vf_n64 (FP.ddiv x y) ∧ k kc ks L (.double (FP.ddiv x y) :: r) h
  | _ => False
theorem s_ddiv {k : aP} (dd : decode (mB mi) pc = .ok (.ddiv, 1)) (n : aSo G mi d mc ms K k (pc + 1)) : aSo G mi d mc ms K (o_ddiv k) pc := by
  intro kc ks L st h hk p e R s m args below meth c Q M F H locs cells slots ls hR hl h1 h2 hL
  unfold o_ddiv at hk
  split at hk
  · exact lv_ddiv M.1 M.2.1 dd hk.1 (n _ _ _ _ _ hk.2 p e R s m args below meth c Q M F H locs cells slots ls hR hl h1 h2 hL)
  · exact hk.elim
def o_f2d (k : aP) : aP := fun kc ks L st h => match st with
  | .float x :: r => vf_n64 (FP.f2d x) ∧ k kc ks L (.double (FP.f2d x) :: r) h
  | _ => False
theorem s_f2d {k : aP} (dd : decode (mB mi) pc = .ok (.f2d, 1)) (n : aSo G mi d mc ms K k (pc + 1)) : aSo G mi d mc ms K (o_f2d k) pc := by
  intro kc ks L st h hk p e R s m args below meth c Q M F H locs cells slots ls hR hl h1 h2 hL
  unfold o_f2d at hk
  split at hk
  · exact lv_f2d M.1 M.2.1 dd hk.1 (n _ _ _ _ _ hk.2 p e R s m args below meth c Q M F H locs cells slots ls hR hl h1 h2 hL)
  · exact hk.elim
def o_c (v : Value) (k : aP) : aP := fun kc ks L st h => k kc ks L (v :: st) h
theorem s_iconst {k : aP} (z : Int) {v : Int32} (dd : decode (mB mi) pc = .ok (.iconst z, 1)) (hv : Int32.ofInt z = v) (n : aSo G mi d mc ms K k (pc + 1)) : aSo G mi d mc ms K (o_c (.int v) k) pc := by
  intro kc ks L st h hk p e R s m args below meth c Q M F H locs cells slots ls hR hl h1 h2 hL
  exact lv_iconst M.1 M.2.1 dd hv (n _ _ _ _ _ hk p e R s m args below meth c Q M F H locs cells slots ls hR hl h1 h2 hL)
theorem s_bipush {k : aP} (z : Int) {v : Int32} (dd : decode (mB mi) pc = .ok (.bipush z, 2)) (hv : (Int8.ofInt z).toInt32 = v) (n : aSo G mi d mc ms K k (pc + 2)) : aSo G mi d mc ms K (o_c (.int v) k) pc := by
  intro kc ks L st h hk p e R s m args below meth c Q M F H locs cells slots ls hR hl h1 h2 hL
  exact lv_bipush M.1 M.2.1 dd hv (n _ _ _ _ _ hk p e R s m args below meth c Q M F H locs cells slots ls hR hl h1 h2 hL)
theorem s_sipush {k : aP} (z : Int) {v : Int32} (dd : decode (mB mi) pc = .ok (.sipush z, 3)) (hv : (Int16.ofInt z).toInt32 = v) (n : aSo G mi d mc ms K k (pc + 3)) : aSo G mi d mc ms K (o_c (.int v) k) pc := by
  intro kc ks L st h hk p e R s m args below meth c Q M F H locs cells slots ls hR hl h1 h2 hL
  exact lv_sipush M.1 M.2.1 dd hv (n _ _ _ _ _ hk p e R s m args below meth c Q M F H locs cells slots ls hR hl h1 h2 hL)
theorem s_lconst {k : aP} (z : Fin 2) {v : Int64} (dd : decode (mB mi) pc = .ok (.lconst z, 1)) (hv : Int64.ofNat (z : Nat) = v) (n : aSo G mi d mc ms K k (pc + 1)) : aSo G mi d mc ms K (o_c (.long v) k) pc := by
  intro kc ks L st h hk p e R s m args below meth c Q M F H locs cells slots ls hR hl h1 h2 hL
  exact lv_lconst M.1 M.2.1 dd hv (n _ _ _ _ _ hk p e R s m args below meth c Q M F H locs cells slots ls hR hl h1 h2 hL)
theorem s_fconst0 {k : aP} (dd : decode (mB mi) pc = .ok (.fconst 0, 1)) (n : aSo G mi d mc ms K k (pc + 1)) : aSo G mi d mc ms K (o_c (.float FP.fconst0) k) pc := by
  intro kc ks L st h hk p e R s m args below meth c Q M F H locs cells slots ls hR hl h1 h2 hL
  exact lv_fconst0 M.1 M.2.1 dd (n _ _ _ _ _ hk p e R s m args below meth c Q M F H locs cells slots ls hR hl h1 h2 hL)
theorem s_dconst0 {k : aP} (dd : decode (mB mi) pc = .ok (.dconst 0, 1)) (n : aSo G mi d mc ms K k (pc + 1)) : aSo G mi d mc ms K (o_c (.double FP.dconst0) k) pc := by
  intro kc ks L st h hk p e R s m args below meth c Q M F H locs cells slots ls hR hl h1 h2 hL
  exact lv_dconst0 M.1 M.2.1 dd (n _ _ _ _ _ hk p e R s m args below meth c Q M F H locs cells slots ls hR hl h1 h2 hL)
theorem s_null {k : aP} (dd : decode (mB mi) pc = .ok (.aconst_null, 1)) (n : aSo G mi d mc ms K k (pc + 1)) : aSo G mi d mc ms K (o_c .null k) pc := by
  intro kc ks L st h hk p e R s m args below meth c Q M F H locs cells slots ls hR hl h1 h2 hL
  exact lv_null M.1 M.2.1 dd (n _ _ _ _ _ hk p e R s m args below meth c Q M F H locs cells slots ls hR hl h1 h2 hL)
theorem s_ldc {k : aP} {ix : Nat} {v : Int32} (dd : decode (mB mi) pc = .ok (.ldc ix, 2)) (hw : Cond.constant (mY mi).cls ix v ∈ aW) (n : aSo G mi d mc ms K k (pc + 2)) : aSo G mi d mc ms K (o_c (.int v) k) pc := by
  intro kc ks L st h hk p e R s m args below meth c Q M F H locs cells slots ls hR hl h1 h2 hL
  exact lv_ldc M.1 M.2.1 M.2.2.2.2.1 (M.2.2.2.2.2.1 _ hw) dd (n _ _ _ _ _ hk p e R s m args below meth c Q M F H locs cells slots ls hR hl h1 h2 hL)
theorem s_ldcw {k : aP} {ix : Nat} {v : Int32} (dd : decode (mB mi) pc = .ok (.ldc_w ix, 3)) (hw : Cond.constant (mY mi).cls ix v ∈ aW) (n : aSo G mi d mc ms K k (pc + 3)) : aSo G mi d mc ms K (o_c (.int v) k) pc := by
  intro kc ks L st h hk p e R s m args below meth c Q M F H locs cells slots ls hR hl h1 h2 hL
  exact lv_ldcw M.1 M.2.1 M.2.2.2.2.1 (M.2.2.2.2.2.1 _ hw) dd (n _ _ _ _ _ hk p e R s m args below meth c Q M F H locs cells slots ls hR hl h1 h2 hL)
theorem s_ldc2 {k : aP} {ix : Nat} {v : Int64} (dd : decode (mB mi) pc = .ok (.ldc2_w ix, 3)) (hw : Cond.constantLong (mY mi).cls ix v ∈ aW) (n : aSo G mi d mc ms K k (pc + 3)) : aSo G mi d mc ms K (o_c (.long v) k) pc := by
  intro kc ks L st h hk p e R s m args below meth c Q M F H locs cells slots ls hR hl h1 h2 hL
  exact lv_ldc2 M.1 M.2.1 M.2.2.2.2.1 (M.2.2.2.2.2.1 _ hw) dd (n _ _ _ _ _ hk p e R s m args below meth c Q M F H locs cells slots ls hR hl h1 h2 hL)
def o_iload (i : Nat) (k : aP) : aP := fun kc ks L st h => match lg L i with
  | some (.int x) => k kc ks L (.int x :: st) h
  | _ => False
theorem s_iload_n {k : aP} (z : Fin 4) {i : Nat} (hz : (z : Nat) = i) (dd : decode (mB mi) pc = .ok (.iload_n z, 1)) (n : aSo G mi d mc ms K k (pc + 1)) : aSo G mi d mc ms K (o_iload i k) pc := by
  intro kc ks L st h hk p e R s m args below meth c Q M F H locs cells slots ls hR hl h1 h2 hL
  unfold o_iload at hk
  split at hk
  · next x e9 => exact lv_iload_n M.1 M.2.1 dd hz (hL.at e9) (n _ _ _ _ _ hk p e R s m args below meth c Q M F H locs cells slots ls hR hl h1 h2 hL)
  · exact hk.elim
theorem s_iload {k : aP} {i : Nat} (dd : decode (mB mi) pc = .ok (.iload i, 2)) (n : aSo G mi d mc ms K k (pc + 2)) : aSo G mi d mc ms K (o_iload i k) pc := by
  intro kc ks L st h hk p e R s m args below meth c Q M F H locs cells slots ls hR hl h1 h2 hL
  unfold o_iload at hk
  split at hk
  · next x e9 => exact lv_iload M.1 M.2.1 dd (hL.at e9) (n _ _ _ _ _ hk p e R s m args below meth c Q M F H locs cells slots ls hR hl h1 h2 hL)
  · exact hk.elim
def o_lload (i : Nat) (k : aP) : aP := fun kc ks L st h => match lg L i with
  | some (.long x) => k kc ks L (.long x :: st) h
  | _ => False
theorem s_lload_n {k : aP} (z : Fin 4) {i : Nat} (hz : (z : Nat) = i) (dd : decode (mB mi) pc = .ok (.lload_n z, 1)) (n : aSo G mi d mc ms K k (pc + 1)) : aSo G mi d mc ms K (o_lload i k) pc := by
  intro kc ks L st h hk p e R s m args below meth c Q M F H locs cells slots ls hR hl h1 h2 hL
  unfold o_lload at hk
  split at hk
  · next x e9 => exact lv_lload_n M.1 M.2.1 dd hz (hL.at e9) (n _ _ _ _ _ hk p e R s m args below meth c Q M F H locs cells slots ls hR hl h1 h2 hL)
  · exact hk.elim
theorem s_lload {k : aP} {i : Nat} (dd : decode (mB mi) pc = .ok (.lload i, 2)) (n : aSo G mi d mc ms K k (pc + 2)) : aSo G mi d mc ms K (o_lload i k) pc := by
  intro kc ks L st h hk p e R s m args below meth c Q M F H locs cells slots ls hR hl h1 h2 hL
  unfold o_lload at hk
  split at hk
  · next x e9 => exact lv_lload M.1 M.2.1 dd (hL.at e9) (n _ _ _ _ _ hk p e R s m args below meth c Q M F H locs cells slots ls hR hl h1 h2 hL)
  · exact hk.elim
def o_fload (i : Nat) (k : aP) : aP := fun kc ks L st h => match lg L i with
  | some (.float x) => k kc ks L (.float x :: st) h
  | _ => False
theorem s_fload_n {k : aP} (z : Fin 4) {i : Nat} (hz : (z : Nat) = i) (dd : decode (mB mi) pc = .ok (.fload_n z, 1)) (n : aSo G mi d mc ms K k (pc + 1)) : aSo G mi d mc ms K (o_fload i k) pc := by
  intro kc ks L st h hk p e R s m args below meth c Q M F H locs cells slots ls hR hl h1 h2 hL
  unfold o_fload at hk
  split at hk
  · next x e9 => exact lv_fload_n M.1 M.2.1 dd hz (hL.at e9) (n _ _ _ _ _ hk p e R s m args below meth c Q M F H locs cells slots ls hR hl h1 h2 hL)
  · exact hk.elim
theorem s_fload {k : aP} {i : Nat} (dd : decode (mB mi) pc = .ok (.fload i, 2)) (n : aSo G mi d mc ms K k (pc + 2)) : aSo G mi d mc ms K (o_fload i k) pc := by
  intro kc ks L st h hk p e R s m args below meth c Q M F H locs cells slots ls hR hl h1 h2 hL
  unfold o_fload at hk
  split at hk
  · next x e9 => exact lv_fload M.1 M.2.1 dd (hL.at e9) (n _ _ _ _ _ hk p e R s m args below meth c Q M F H locs cells slots ls hR hl h1 h2 hL)
  · exact hk.elim
def o_dload (i : Nat) (k : aP) : aP := fun kc ks L st h => match lg L i with
  | some (.double x) => k kc ks L (.double x :: st) h
  | _ => False
theorem s_dload_n {k : aP} (z : Fin 4) {i : Nat} (hz : (z : Nat) = i) (dd : decode (mB mi) pc = .ok (.dload_n z, 1)) (n : aSo G mi d mc ms K k (pc + 1)) : aSo G mi d mc ms K (o_dload i k) pc := by
  intro kc ks L st h hk p e R s m args below meth c Q M F H locs cells slots ls hR hl h1 h2 hL
  unfold o_dload at hk
  split at hk
  · next x e9 => exact lv_dload_n M.1 M.2.1 dd hz (hL.at e9) (n _ _ _ _ _ hk p e R s m args below meth c Q M F H locs cells slots ls hR hl h1 h2 hL)
  · exact hk.elim
theorem s_dload {k : aP} {i : Nat} (dd : decode (mB mi) pc = .ok (.dload i, 2)) (n : aSo G mi d mc ms K k (pc + 2)) : aSo G mi d mc ms K (o_dload i k) pc := by
  intro kc ks L st h hk p e R s m args below meth c Q M F H locs cells slots ls hR hl h1 h2 hL
  unfold o_dload at hk
  split at hk
  · next x e9 => exact lv_dload M.1 M.2.1 dd (hL.at e9) (n _ _ _ _ _ hk p e R s m args below meth c Q M F H locs cells slots ls hR hl h1 h2 hL)
  · exact hk.elim
def o_aload (i : Nat) (k : aP) : aP := fun kc ks L st h => match lg L i with
  | some (.ref x) => k kc ks L (.ref x :: st) h
  | some .null => k kc ks L (.null :: st) h
  | _ => False
theorem s_aload_n {k : aP} (z : Fin 4) {i : Nat} (hz : (z : Nat) = i) (dd : decode (mB mi) pc = .ok (.aload_n z, 1)) (n : aSo G mi d mc ms K k (pc + 1)) : aSo G mi d mc ms K (o_aload i k) pc := by
  intro kc ks L st h hk p e R s m args below meth c Q M F H locs cells slots ls hR hl h1 h2 hL
  unfold o_aload at hk
  split at hk
  · next x e9 => exact lv_aload_n M.1 M.2.1 dd hz (hL.at e9) (n _ _ _ _ _ hk p e R s m args below meth c Q M F H locs cells slots ls hR hl h1 h2 hL)
  · next e9 => exact lv_aload_nN M.1 M.2.1 dd hz (hL.at e9) (n _ _ _ _ _ hk p e R s m args below meth c Q M F H locs cells slots ls hR hl h1 h2 hL)
  · exact hk.elim
theorem s_aload {k : aP} {i : Nat} (dd : decode (mB mi) pc = .ok (.aload i, 2)) (n : aSo G mi d mc ms K k (pc + 2)) : aSo G mi d mc ms K (o_aload i k) pc := by
  intro kc ks L st h hk p e R s m args below meth c Q M F H locs cells slots ls hR hl h1 h2 hL
  unfold o_aload at hk
  split at hk
  · next x e9 => exact lv_aload M.1 M.2.1 dd (hL.at e9) (n _ _ _ _ _ hk p e R s m args below meth c Q M F H locs cells slots ls hR hl h1 h2 hL)
  · next e9 => exact lv_aloadN M.1 M.2.1 dd (hL.at e9) (n _ _ _ _ _ hk p e R s m args below meth c Q M F H locs cells slots ls hR hl h1 h2 hL)
  · exact hk.elim
def o_istore (i : Nat) (k : aP) : aP := fun kc ks L st h => match st with
  | .int x :: r => k kc ks (lset1 L i (.int x)) r h
  | _ => False
theorem s_istore_n {k : aP} (z : Fin 4) {i : Nat} (hz : (z : Nat) = i) (dd : decode (mB mi) pc = .ok (.istore_n z, 1)) (hi : i < mL mi) (n : aSo G mi d mc ms K k (pc + 1)) : aSo G mi d mc ms K (o_istore i k) pc := by
  intro kc ks L st h hk p e R s m args below meth c Q M F H locs cells slots ls hR hl h1 h2 hL
  unfold o_istore at hk
  split at hk
  · exact lv_istore_n M.1 M.2.1 dd hz hL.has hi rfl (fun ls9 hl9 => n _ _ _ _ _ hk p e R s m args below meth c Q M F H locs cells slots ls9 hR hl h1 h2 (lvL.of1 hL.2.2.1 hl9))
  · exact hk.elim
theorem s_istore {k : aP} {i : Nat} (dd : decode (mB mi) pc = .ok (.istore i, 2)) (hi : i < mL mi) (n : aSo G mi d mc ms K k (pc + 2)) : aSo G mi d mc ms K (o_istore i k) pc := by
  intro kc ks L st h hk p e R s m args below meth c Q M F H locs cells slots ls hR hl h1 h2 hL
  unfold o_istore at hk
  split at hk
  · exact lv_istore M.1 M.2.1 dd hL.has hi rfl (fun ls9 hl9 => n _ _ _ _ _ hk p e R s m args below meth c Q M F H locs cells slots ls9 hR hl h1 h2 (lvL.of1 hL.2.2.1 hl9))
  · exact hk.elim
def o_lstore (i : Nat) (k : aP) : aP := fun kc ks L st h => match st with
  | .long x :: r => k kc ks (lset2 L i (.long x)) r h
  | _ => False
theorem s_lstore_n {k : aP} (z : Fin 4) {i : Nat} (hz : (z : Nat) = i) (dd : decode (mB mi) pc = .ok (.lstore_n z, 1)) (hi : i + 1 < mL mi) (n : aSo G mi d mc ms K k (pc + 1)) : aSo G mi d mc ms K (o_lstore i k) pc := by
  intro kc ks L st h hk p e R s m args below meth c Q M F H locs cells slots ls hR hl h1 h2 hL
  unfold o_lstore at hk
  split at hk
  · exact lv_lstore_n M.1 M.2.1 dd hz hL.has hi rfl (fun ls9 hl9 => n _ _ _ _ _ hk p e R s m args below meth c Q M F H locs cells slots ls9 hR hl h1 h2 (lvL.of2 hL.2.2.1 hl9))
  · exact hk.elim
theorem s_lstore {k : aP} {i : Nat} (dd : decode (mB mi) pc = .ok (.lstore i, 2)) (hi : i + 1 < mL mi) (n : aSo G mi d mc ms K k (pc + 2)) : aSo G mi d mc ms K (o_lstore i k) pc := by
  intro kc ks L st h hk p e R s m args below meth c Q M F H locs cells slots ls hR hl h1 h2 hL
  unfold o_lstore at hk
  split at hk
  · exact lv_lstore M.1 M.2.1 dd hL.has hi rfl (fun ls9 hl9 => n _ _ _ _ _ hk p e R s m args below meth c Q M F H locs cells slots ls9 hR hl h1 h2 (lvL.of2 hL.2.2.1 hl9))
  · exact hk.elim
def o_fstore (i : Nat) (k : aP) : aP := fun kc ks L st h => match st with
  | .float x :: r => k kc ks (lset1 L i (.float x)) r h
  | _ => False
theorem s_fstore_n {k : aP} (z : Fin 4) {i : Nat} (hz : (z : Nat) = i) (dd : decode (mB mi) pc = .ok (.fstore_n z, 1)) (hi : i < mL mi) (n : aSo G mi d mc ms K k (pc + 1)) : aSo G mi d mc ms K (o_fstore i k) pc := by
  intro kc ks L st h hk p e R s m args below meth c Q M F H locs cells slots ls hR hl h1 h2 hL
  unfold o_fstore at hk
  split at hk
  · exact lv_fstore_n M.1 M.2.1 dd hz hL.has hi rfl (fun ls9 hl9 => n _ _ _ _ _ hk p e R s m args below meth c Q M F H locs cells slots ls9 hR hl h1 h2 (lvL.of1 hL.2.2.1 hl9))
  · exact hk.elim
theorem s_fstore {k : aP} {i : Nat} (dd : decode (mB mi) pc = .ok (.fstore i, 2)) (hi : i < mL mi) (n : aSo G mi d mc ms K k (pc + 2)) : aSo G mi d mc ms K (o_fstore i k) pc := by
  intro kc ks L st h hk p e R s m args below meth c Q M F H locs cells slots ls hR hl h1 h2 hL
  unfold o_fstore at hk
  split at hk
  · exact lv_fstore M.1 M.2.1 dd hL.has hi rfl (fun ls9 hl9 => n _ _ _ _ _ hk p e R s m args below meth c Q M F H locs cells slots ls9 hR hl h1 h2 (lvL.of1 hL.2.2.1 hl9))
  · exact hk.elim
def o_dstore (i : Nat) (k : aP) : aP := fun kc ks L st h => match st with
  | .double x :: r => k kc ks (lset2 L i (.double x)) r h
  | _ => False
theorem s_dstore_n {k : aP} (z : Fin 4) {i : Nat} (hz : (z : Nat) = i) (dd : decode (mB mi) pc = .ok (.dstore_n z, 1)) (hi : i + 1 < mL mi) (n : aSo G mi d mc ms K k (pc + 1)) : aSo G mi d mc ms K (o_dstore i k) pc := by
  intro kc ks L st h hk p e R s m args below meth c Q M F H locs cells slots ls hR hl h1 h2 hL
  unfold o_dstore at hk
  split at hk
  · exact lv_dstore_n M.1 M.2.1 dd hz hL.has hi rfl (fun ls9 hl9 => n _ _ _ _ _ hk p e R s m args below meth c Q M F H locs cells slots ls9 hR hl h1 h2 (lvL.of2 hL.2.2.1 hl9))
  · exact hk.elim
theorem s_dstore {k : aP} {i : Nat} (dd : decode (mB mi) pc = .ok (.dstore i, 2)) (hi : i + 1 < mL mi) (n : aSo G mi d mc ms K k (pc + 2)) : aSo G mi d mc ms K (o_dstore i k) pc := by
  intro kc ks L st h hk p e R s m args below meth c Q M F H locs cells slots ls hR hl h1 h2 hL
  unfold o_dstore at hk
  split at hk
  · exact lv_dstore M.1 M.2.1 dd hL.has hi rfl (fun ls9 hl9 => n _ _ _ _ _ hk p e R s m args below meth c Q M F H locs cells slots ls9 hR hl h1 h2 (lvL.of2 hL.2.2.1 hl9))
  · exact hk.elim
def o_astore (i : Nat) (k : aP) : aP := fun kc ks L st h => match st with
  | .ref x :: r => k kc ks (lset1 L i (.ref x)) r h
  | .null :: r => k kc ks (lset1 L i .null) r h
  | _ => False
theorem s_astore_n {k : aP} (z : Fin 4) {i : Nat} (hz : (z : Nat) = i) (dd : decode (mB mi) pc = .ok (.astore_n z, 1)) (hi : i < mL mi) (n : aSo G mi d mc ms K k (pc + 1)) : aSo G mi d mc ms K (o_astore i k) pc := by
  intro kc ks L st h hk p e R s m args below meth c Q M F H locs cells slots ls hR hl h1 h2 hL
  unfold o_astore at hk
  split at hk
  · exact lv_astore_n M.1 M.2.1 dd hz hL.has hi rfl (fun ls9 hl9 => n _ _ _ _ _ hk p e R s m args below meth c Q M F H locs cells slots ls9 hR hl h1 h2 (lvL.of1 hL.2.2.1 hl9))
  · exact lv_astore_nN M.1 M.2.1 dd hz hL.has hi rfl (fun ls9 hl9 => n _ _ _ _ _ hk p e R s m args below meth c Q M F H locs cells slots ls9 hR hl h1 h2 (lvL.of1 hL.2.2.1 hl9))
  · exact hk.elim
theorem s_astore {k : aP} {i : Nat} (dd : decode (mB mi) pc = .ok (.astore i, 2)) (hi : i < mL mi) (n : aSo G mi d mc ms K k (pc + 2)) : aSo G mi d mc ms K (o_astore i k) pc := by
  intro kc ks L st h hk p e R s m args below meth c Q M F H locs cells slots ls hR hl h1 h2 hL
  unfold o_astore at hk
  split at hk
  · exact lv_astore M.1 M.2.1 dd hL.has hi rfl (fun ls9 hl9 => n _ _ _ _ _ hk p e R s m args below meth c Q M F H locs cells slots ls9 hR hl h1 h2 (lvL.of1 hL.2.2.1 hl9))
  · exact lv_astoreN M.1 M.2.1 dd hL.has hi rfl (fun ls9 hl9 => n _ _ _ _ _ hk p e R s m args below meth c Q M F H locs cells slots ls9 hR hl h1 h2 (lvL.of1 hL.2.2.1 hl9))
  · exact hk.elim
def o_iinc (i : Nat) (x0 : Int32) (k : aP) : aP := fun kc ks L st h => match lg L i with
  | some (.int x) => k kc ks (lset1 L i (.int (x + x0))) st h
  | _ => False
theorem s_iinc {k : aP} {i : Nat} (z : Int) {x0 : Int32} (dd : decode (mB mi) pc = .ok (.iinc i z, 3)) (hz : Int32.ofInt z = x0) (n : aSo G mi d mc ms K k (pc + 3)) : aSo G mi d mc ms K (o_iinc i x0 k) pc := by
  intro kc ks L st h hk p e R s m args below meth c Q M F H locs cells slots ls hR hl h1 h2 hL
  unfold o_iinc at hk
  split at hk
  · next x e9 =>
    obtain ⟨k9, hk9⟩ := List.getElem?_of_mem (by have := asc_of L 0 i _ e9; rwa [Nat.zero_add] at this)
    exact lv_iinc M.1 M.2.1 dd hL.has hk9 (by rw [hz]) (by rw [← hL.2.2.1]; exact lg_lt L i _ e9) rfl (fun ls9 hl9 => n _ _ _ _ _ hk p e R s m args below meth c Q M F H locs cells slots ls9 hR hl h1 h2 (lvL.of1 hL.2.2.1 hl9))
  · exact hk.elim
def o_dup (k : aP) : aP := fun kc ks L st h => match st with
  | v :: r => v.category = 1 ∧ k kc ks L (v :: v :: r) h
  | _ => False
def o_pop (k : aP) : aP := fun kc ks L st h => match st with
  | v :: r => v.category = 1 ∧ k kc ks L r h
  | _ => False
def o_dupx1 (k : aP) : aP := fun kc ks L st h => match st with
  | v :: w :: r => v.category = 1 ∧ w.category = 1 ∧ k kc ks L (v :: w :: v :: r) h
  | _ => False
def o_dup2 (k : aP) : aP := fun kc ks L st h => match st with
  | v :: w :: r => v.category = 1 ∧ w.category = 1 ∧ k kc ks L (v :: w :: v :: w :: r) h
  | _ => False
def o_dup2l (k : aP) : aP := fun kc ks L st h => match st with
  | v :: r => v.category = 2 ∧ k kc ks L (v :: v :: r) h
  | _ => False
theorem s_dup {k : aP} (dd : decode (mB mi) pc = .ok (.dup, 1)) (n : aSo G mi d mc ms K k (pc + 1)) : aSo G mi d mc ms K (o_dup k) pc := by
  intro kc ks L st h hk p e R s m args below meth c Q M F H locs cells slots ls hR hl h1 h2 hL
  unfold o_dup at hk
  split at hk
  · exact lv_dup M.1 M.2.1 dd hk.1 (n _ _ _ _ _ (hk.2) p e R s m args below meth c Q M F H locs cells slots ls hR hl h1 h2 hL)
  · exact hk.elim
theorem s_pop {k : aP} (dd : decode (mB mi) pc = .ok (.pop, 1)) (n : aSo G mi d mc ms K k (pc + 1)) : aSo G mi d mc ms K (o_pop k) pc := by
  intro kc ks L st h hk p e R s m args below meth c Q M F H locs cells slots ls hR hl h1 h2 hL
  unfold o_pop at hk
  split at hk
  · exact lv_pop M.1 M.2.1 dd hk.1 (n _ _ _ _ _ (hk.2) p e R s m args below meth c Q M F H locs cells slots ls hR hl h1 h2 hL)
  · exact hk.elim
theorem s_dupx1 {k : aP} (dd : decode (mB mi) pc = .ok (.dup_x1, 1)) (n : aSo G mi d mc ms K k (pc + 1)) : aSo G mi d mc ms K (o_dupx1 k) pc := by
  intro kc ks L st h hk p e R s m args below meth c Q M F H locs cells slots ls hR hl h1 h2 hL
  unfold o_dupx1 at hk
  split at hk
  · exact lv_dup_x1 M.1 M.2.1 dd hk.1 hk.2.1 (n _ _ _ _ _ (hk.2.2) p e R s m args below meth c Q M F H locs cells slots ls hR hl h1 h2 hL)
  · exact hk.elim
theorem s_dup2 {k : aP} (dd : decode (mB mi) pc = .ok (.dup2, 1)) (n : aSo G mi d mc ms K k (pc + 1)) : aSo G mi d mc ms K (o_dup2 k) pc := by
  intro kc ks L st h hk p e R s m args below meth c Q M F H locs cells slots ls hR hl h1 h2 hL
  unfold o_dup2 at hk
  split at hk
  · exact lv_dup2_11 M.1 M.2.1 dd hk.1 hk.2.1 (n _ _ _ _ _ (hk.2.2) p e R s m args below meth c Q M F H locs cells slots ls hR hl h1 h2 hL)
  · exact hk.elim
theorem s_dup2l {k : aP} (dd : decode (mB mi) pc = .ok (.dup2, 1)) (n : aSo G mi d mc ms K k (pc + 1)) : aSo G mi d mc ms K (o_dup2l k) pc := by
  intro kc ks L st h hk p e R s m args below meth c Q M F H locs cells slots ls hR hl h1 h2 hL
  unfold o_dup2l at hk
  split at hk
  · exact lv_dup2_2 M.1 M.2.1 dd hk.1 (n _ _ _ _ _ (hk.2) p e R s m args below meth c Q M F H locs cells slots ls hR hl h1 h2 hL)
  · exact hk.elim
def o_ifeq (t k : aP) : aP := fun kc ks L st h => match st with
  | .int x :: r => (x = 0 → t kc ks L r h) ∧ (¬ x = 0 → k kc ks L r h)
  | _ => False
theorem s_ifeq {t k : aP} (off : Int) (tgt : Nat) (dd : decode (mB mi) pc = .ok (.ifCond .eq off, 3)) (ht : (pc : Int) + off = (tgt : Int)) (t9 : aSo G mi d mc ms K t tgt) (n : aSo G mi d mc ms K k (pc + 3)) : aSo G mi d mc ms K (o_ifeq t k) pc := by
  intro kc ks L st h hk p e R s m args below meth c Q M F H locs cells slots ls hR hl h1 h2 hL
  unfold o_ifeq at hk
  split at hk
  · exact lv_if_eq M.1 M.2.1 dd ht (fun z9 => t9 _ _ _ _ _ (hk.1 z9) p e R s m args below meth c Q M F H locs cells slots ls hR hl h1 h2 hL) (fun z9 => n _ _ _ _ _ (hk.2 z9) p e R s m args below meth c Q M F H locs cells slots ls hR hl h1 h2 hL)
  · exact hk.elim
def o_iceq (t k : aP) : aP := fun kc ks L st h => match st with
  | .int y :: .int x :: r => (x = y → t kc ks L r h) ∧ (¬ x = y → k kc ks L r h)
  | _ => False
theorem s_iceq {t k : aP} (off : Int) (tgt : Nat) (dd : decode (mB mi) pc = .ok (.if_icmp .eq off, 3)) (ht : (pc : Int) + off = (tgt : Int)) (t9 : aSo G mi d mc ms K t tgt) (n : aSo G mi d mc ms K k (pc + 3)) : aSo G mi d mc ms K (o_iceq t k) pc := by
  intro kc ks L st h hk p e R s m args below meth c Q M F H locs cells slots ls hR hl h1 h2 hL
  unfold o_iceq at hk
  split at hk
  · exact lv_icmp_eq M.1 M.2.1 dd ht (fun z9 => t9 _ _ _ _ _ (hk.1 z9) p e R s m args below meth c Q M F H locs cells slots ls hR hl h1 h2 hL) (fun z9 => n _ _ _ _ _ (hk.2 z9) p e R s m args below meth c Q M F H locs cells slots ls hR hl h1 h2 hL)
  · exact hk.elim
def o_ifne (t k : aP) : aP := fun kc ks L st h => match st with
  | .int x :: r => (¬ x = 0 → t kc ks L r h) ∧ (x = 0 → k kc ks L r h)
  | _ => False
theorem s_ifne {t k : aP} (off : Int) (tgt : Nat) (dd : decode (mB mi) pc = .ok (.ifCond .ne off, 3)) (ht : (pc : Int) + off = (tgt : Int)) (t9 : aSo G mi d mc ms K t tgt) (n : aSo G mi d mc ms K k (pc + 3)) : aSo G mi d mc ms K (o_ifne t k) pc := by
  intro kc ks L st h hk p e R s m args below meth c Q M F H locs cells slots ls hR hl h1 h2 hL
  unfold o_ifne at hk
  split at hk
  · exact lv_if_ne M.1 M.2.1 dd ht (fun z9 => t9 _ _ _ _ _ (hk.1 z9) p e R s m args below meth c Q M F H locs cells slots ls hR hl h1 h2 hL) (fun z9 => n _ _ _ _ _ (hk.2 z9) p e R s m args below meth c Q M F H locs cells slots ls hR hl h1 h2 hL)
  · exact hk.elim
def o_icne (t k : aP) : aP := fun kc ks L st h => match st with
  | .int y :: .int x :: r => (¬ x = y → t kc ks L r h) ∧ (x = y → k kc ks L r h)
  | _ => False
theorem s_icne {t k : aP} (off : Int) (tgt : Nat) (dd : decode (mB mi) pc = .ok (.if_icmp .ne off, 3)) (ht : (pc : Int) + off = (tgt : Int)) (t9 : aSo G mi d mc ms K t tgt) (n : aSo G mi d mc ms K k (pc + 3)) : aSo G mi d mc ms K (o_icne t k) pc := by
  intro kc ks L st h hk p e R s m args below meth c Q M F H locs cells slots ls hR hl h1 h2 hL
  unfold o_icne at hk
  split at hk
  · exact lv_icmp_ne M.1 M.2.1 dd ht (fun z9 => t9 _ _ _ _ _ (hk.1 z9) p e R s m args below meth c Q M F H locs cells slots ls hR hl h1 h2 hL) (fun z9 => n _ _ _ _ _ (hk.2 z9) p e R s m args below meth c Q M F H locs cells slots ls hR hl h1 h2 hL)
  · exact hk.elim
def o_iflt (t k : aP) : aP := fun kc ks L st h => match st with
  | .int x :: r => (x < 0 → t kc ks L r h) ∧ (¬ x < 0 → k kc ks L r h)
  | _ => False
theorem s_iflt {t k : aP} (off : Int) (tgt : Nat) (dd : decode (mB mi) pc = .ok (.ifCond .lt off, 3)) (ht : (pc : Int) + off = (tgt : Int)) (t9 : aSo G mi d mc ms K t tgt) (n : aSo G mi d mc ms K k (pc + 3)) : aSo G mi d mc ms K (o_iflt t k) pc := by
  intro kc ks L st h hk p e R s m args below meth c Q M F H locs cells slots ls hR hl h1 h2 hL
  unfold o_iflt at hk
  split at hk
  · exact lv_if_lt M.1 M.2.1 dd ht (fun z9 => t9 _ _ _ _ _ (hk.1 z9) p e R s m args below meth c Q M F H locs cells slots ls hR hl h1 h2 hL) (fun z9 => n _ _ _ _ _ (hk.2 z9) p e R s m args below meth c Q M F H locs cells slots ls hR hl h1 h2 hL)
  · exact hk.elim
def o_iclt (t k : aP) : aP := fun kc ks L st h => match st with
  | .int y :: .int x :: r => (x < y → t kc ks L r h) ∧ (¬ x < y → k kc ks L r h)
  | _ => False
theorem s_iclt {t k : aP} (off : Int) (tgt : Nat) (dd : decode (mB mi) pc = .ok (.if_icmp .lt off, 3)) (ht : (pc : Int) + off = (tgt : Int)) (t9 : aSo G mi d mc ms K t tgt) (n : aSo G mi d mc ms K k (pc + 3)) : aSo G mi d mc ms K (o_iclt t k) pc := by
  intro kc ks L st h hk p e R s m args below meth c Q M F H locs cells slots ls hR hl h1 h2 hL
  unfold o_iclt at hk
  split at hk
  · exact lv_icmp_lt M.1 M.2.1 dd ht (fun z9 => t9 _ _ _ _ _ (hk.1 z9) p e R s m args below meth c Q M F H locs cells slots ls hR hl h1 h2 hL) (fun z9 => n _ _ _ _ _ (hk.2 z9) p e R s m args below meth c Q M F H locs cells slots ls hR hl h1 h2 hL)
  · exact hk.elim
def o_ifge (t k : aP) : aP := fun kc ks L st h => match st with
  | .int x :: r => (0 ≤ x → t kc ks L r h) ∧ (¬ 0 ≤ x → k kc ks L r h)
  | _ => False
theorem s_ifge {t k : aP} (off : Int) (tgt : Nat) (dd : decode (mB mi) pc = .ok (.ifCond .ge off, 3)) (ht : (pc : Int) + off = (tgt : Int)) (t9 : aSo G mi d mc ms K t tgt) (n : aSo G mi d mc ms K k (pc + 3)) : aSo G mi d mc ms K (o_ifge t k) pc := by
  intro kc ks L st h hk p e R s m args below meth c Q M F H locs cells slots ls hR hl h1 h2 hL
  unfold o_ifge at hk
  split at hk
  · exact lv_if_ge M.1 M.2.1 dd ht (fun z9 => t9 _ _ _ _ _ (hk.1 z9) p e R s m args below meth c Q M F H locs cells slots ls hR hl h1 h2 hL) (fun z9 => n _ _ _ _ _ (hk.2 z9) p e R s m args below meth c Q M F H locs cells slots ls hR hl h1 h2 hL)
  · exact hk.elim
def o_icge (t k : aP) : aP := fun kc ks L st h => match st with
  | .int y :: .int x :: r => (y ≤ x → t kc ks L r h) ∧ (¬ y ≤ x → k kc ks L r h)
  | _ => False
theorem s_icge {t k : aP} (off : Int) (tgt : Nat) (dd : decode (mB mi) pc = .ok (.if_icmp .ge off, 3)) (ht : (pc : Int) + off = (tgt : Int)) (t9 : aSo G mi d mc ms K t tgt) (n : aSo G mi d mc ms K k (pc + 3)) : aSo G mi d mc ms K (o_icge t k) pc := by
  intro kc ks L st h hk p e R s m args below meth c Q M F H locs cells slots ls hR hl h1 h2 hL
  unfold o_icge at hk
  split at hk
  · exact lv_icmp_ge M.1 M.2.1 dd ht (fun z9 => t9 _ _ _ _ _ (hk.1 z9) p e R s m args below meth c Q M F H locs cells slots ls hR hl h1 h2 hL) (fun z9 => n _ _ _ _ _ (hk.2 z9) p e R s m args below meth c Q M F H locs cells slots ls hR hl h1 h2 hL)
  · exact hk.elim
def o_ifgt (t k : aP) : aP := fun kc ks L st h => match st with
  | .int x :: r => (0 < x → t kc ks L r h) ∧ (¬ 0 < x → k kc ks L r h)
  | _ => False
theorem s_ifgt {t k : aP} (off : Int) (tgt : Nat) (dd : decode (mB mi) pc = .ok (.ifCond .gt off, 3)) (ht : (pc : Int) + off = (tgt : Int)) (t9 : aSo G mi d mc ms K t tgt) (n : aSo G mi d mc ms K k (pc + 3)) : aSo G mi d mc ms K (o_ifgt t k) pc := by
  intro kc ks L st h hk p e R s m args below meth c Q M F H locs cells slots ls hR hl h1 h2 hL
  unfold o_ifgt at hk
  split at hk
  · exact lv_if_gt M.1 M.2.1 dd ht (fun z9 => t9 _ _ _ _ _ (hk.1 z9) p e R s m args below meth c Q M F H locs cells slots ls hR hl h1 h2 hL) (fun z9 => n _ _ _ _ _ (hk.2 z9) p e R s m args below meth c Q M F H locs cells slots ls hR hl h1 h2 hL)
  · exact hk.elim
def o_icgt (t k : aP) : aP := fun kc ks L st h => match st with
  | .int y :: .int x :: r => (y < x → t kc ks L r h) ∧ (¬ y < x → k kc ks L r h)
  | _ => False
theorem s_icgt {t k : aP} (off : Int) (tgt : Nat) (dd : decode (mB mi) pc = .ok (.if_icmp .gt off, 3)) (ht : (pc : Int) + off = (tgt : Int)) (t9 : aSo G mi d mc ms K t tgt) (n : aSo G mi d mc ms K k (pc + 3)) : aSo G mi d mc ms K (o_icgt t k) pc := by
  intro kc ks L st h hk p e R s m args below meth c Q M F H locs cells slots ls hR hl h1 h2 hL
  unfold o_icgt at hk
  split at hk
  · exact lv_icmp_gt M.1 M.2.1 dd ht (fun z9 => t9 _ _ _ _ _ (hk.1 z9) p e R s m args below meth c Q M F H locs cells slots ls hR hl h1 h2 hL) (fun z9 => n _ _ _ _ _ (hk.2 z9) p e R s m args below meth c Q M F H locs cells slots ls hR hl h1 h2 hL)
  · exact hk.elim
def o_ifle (t k : aP) : aP := fun kc ks L st h => match st with
  | .int x :: r => (x ≤ 0 → t kc ks L r h) ∧ (¬ x ≤ 0 → k kc ks L r h)
  | _ => False
theorem s_ifle {t k : aP} (off : Int) (tgt : Nat) (dd : decode (mB mi) pc = .ok (.ifCond .le off, 3)) (ht : (pc : Int) + off = (tgt : Int)) (t9 : aSo G mi d mc ms K t tgt) (n : aSo G mi d mc ms K k (pc + 3)) : aSo G mi d mc ms K (o_ifle t k) pc := by
  intro kc ks L st h hk p e R s m args below meth c Q M F H locs cells slots ls hR hl h1 h2 hL
  unfold o_ifle at hk
  split at hk
  · exact lv_if_le M.1 M.2.1 dd ht (fun z9 => t9 _ _ _ _ _ (hk.1 z9) p e R s m args below meth c Q M F H locs cells slots ls hR hl h1 h2 hL) (fun z9 => n _ _ _ _ _ (hk.2 z9) p e R s m args below meth c Q M F H locs cells slots ls hR hl h1 h2 hL)
  · exact hk.elim
def o_icle (t k : aP) : aP := fun kc ks L st h => match st with
  | .int y :: .int x :: r => (x ≤ y → t kc ks L r h) ∧ (¬ x ≤ y → k kc ks L r h)
  | _ => False
theorem s_icle {t k : aP} (off : Int) (tgt : Nat) (dd : decode (mB mi) pc = .ok (.if_icmp .le off, 3)) (ht : (pc : Int) + off = (tgt : Int)) (t9 : aSo G mi d mc ms K t tgt) (n : aSo G mi d mc ms K k (pc + 3)) : aSo G mi d mc ms K (o_icle t k) pc := by
  intro kc ks L st h hk p e R s m args below meth c Q M F H locs cells slots ls hR hl h1 h2 hL
  unfold o_icle at hk
  split at hk
  · exact lv_icmp_le M.1 M.2.1 dd ht (fun z9 => t9 _ _ _ _ _ (hk.1 z9) p e R s m args below meth c Q M F H locs cells slots ls hR hl h1 h2 hL) (fun z9 => n _ _ _ _ _ (hk.2 z9) p e R s m args below meth c Q M F H locs cells slots ls hR hl h1 h2 hL)
  · exact hk.elim
theorem s_goto {t : aP} (off : Int) (tgt : Nat) (dd : decode (mB mi) pc = .ok (.goto off, 3)) (ht : (pc : Int) + off = (tgt : Int)) (n : aSo G mi d mc ms K t tgt) : aSo G mi d mc ms K t pc := by
  intro kc ks L st h hk p e R s m args below meth c Q M F H locs cells slots ls hR hl h1 h2 hL
  exact lv_goto M.1 M.2.1 dd ht (n _ _ _ _ _ hk p e R s m args below meth c Q M F H locs cells slots ls hR hl h1 h2 hL)
/-- the way on at pc, whatever is proved of it -/
def o_at (G : gG) (mi : MI) (d mc ms : Nat) (K : aR → aH → Prop) (pc : Nat) : aP := fun kc ks L st h => AW G mi d mc ms K kc ks pc L st h
theorem s_at : aSo G mi d mc ms K (o_at G mi d mc ms K pc) pc := fun _ _ _ _ _ hk => hk
def o_iret (K : aR → aH → Prop) : aP := fun _ _ _ st h => match st with
  | [.int x] => K (.inl (some (.int x))) h
  | _ => False
theorem s_iret (dd : decode (mB mi) pc = .ok (.ireturn, 1)) (ht : mT mi = some .int) : aSo G mi d mc ms K (o_iret K) pc := by
  intro kc ks L st h hk p e R s m args below meth c Q M F H locs cells slots ls hR hl h1 h2 hL
  unfold o_iret at hk
  split at hk
  · exact F.1 _ h H locs cells slots pc ls hk hR hl (by omega) (by omega) ⟨dd, _, ht, rfl⟩
  · exact hk.elim
def o_lret (K : aR → aH → Prop) : aP := fun _ _ _ st h => match st with
  | [.long x] => K (.inl (some (.long x))) h
  | _ => False
theorem s_lret (dd : decode (mB mi) pc = .ok (.lreturn, 1)) (ht : mT mi = some .long) : aSo G mi d mc ms K (o_lret K) pc := by
  intro kc ks L st h hk p e R s m args below meth c Q M F H locs cells slots ls hR hl h1 h2 hL
  unfold o_lret at hk
  split at hk
  · exact F.1 _ h H locs cells slots pc ls hk hR hl (by omega) (by omega) ⟨dd, ht⟩
  · exact hk.elim
def o_fret (K : aR → aH → Prop) : aP := fun _ _ _ st h => match st with
  | [.float x] => K (.inl (some (.float x))) h
  | _ => False
theorem s_fret (dd : decode (mB mi) pc = .ok (.freturn, 1)) (ht : mT mi = some .float) : aSo G mi d mc ms K (o_fret K) pc := by
  intro kc ks L st h hk p e R s m args below meth c Q M F H locs cells slots ls hR hl h1 h2 hL
  unfold o_fret at hk
  split at hk
  · exact F.1 _ h H locs cells slots pc ls hk hR hl (by omega) (by omega) ⟨dd, ht⟩
  · exact hk.elim
def o_dret (K : aR → aH → Prop) : aP := fun _ _ _ st h => match st with
  | [.double x] => K (.inl (some (.double x))) h
  | _ => False
theorem s_dret (dd : decode (mB mi) pc = .ok (.dreturn, 1)) (ht : mT mi = some .double) : aSo G mi d mc ms K (o_dret K) pc := by
  intro kc ks L st h hk p e R s m args below meth c Q M F H locs cells slots ls hR hl h1 h2 hL
  unfold o_dret at hk
  split at hk
  · exact F.1 _ h H locs cells slots pc ls hk hR hl (by omega) (by omega) ⟨dd, ht⟩
  · exact hk.elim
def o_zret (K : aR → aH → Prop) : aP := fun _ _ _ st h => match st with
  | [.int x] => (x = 0 ∨ x = 1) ∧ K (.inl (some (.int x))) h
  | _ => False
theorem s_zret (dd : decode (mB mi) pc = .ok (.ireturn, 1)) (ht : mT mi = some .boolean) : aSo G mi d mc ms K (o_zret K) pc := by
  intro kc ks L st h hk p e R s m args below meth c Q M F H locs cells slots ls hR hl h1 h2 hL
  unfold o_zret at hk
  split at hk
  · exact F.1 _ h H locs cells slots pc ls hk.2 hR hl (by omega) (by omega) ⟨dd, _, ht, by rcases hk.1 with rfl | rfl <;> rfl⟩
  · exact hk.elim
def o_cret (K : aR → aH → Prop) : aP := fun _ _ _ st h => match st with
  | [.int x] => narrow .char (.int x) = .int x ∧ K (.inl (some (.int x))) h
  | _ => False
theorem s_cret (dd : decode (mB mi) pc = .ok (.ireturn, 1)) (ht : mT mi = some .char) : aSo G mi d mc ms K (o_cret K) pc := by
  intro kc ks L st h hk p e R s m args below meth c Q M F H locs cells slots ls hR hl h1 h2 hL
  unfold o_cret at hk
  split at hk
  · exact F.1 _ h H locs cells slots pc ls hk.2 hR hl (by omega) (by omega) ⟨dd, _, ht, hk.1⟩
  · exact hk.elim
def o_vret (K : aR → aH → Prop) : aP := fun _ _ _ st h => match st with
  | [] => K (.inl none) h
  | _ => False
theorem s_vret (dd : decode (mB mi) pc = .ok (.return_, 1)) (ht : mT mi = none) : aSo G mi d mc ms K (o_vret K) pc := by
  intro kc ks L st h hk p e R s m args below meth c Q M F H locs cells slots ls hR hl h1 h2 hL
  unfold o_vret at hk
  split at hk
  · exact F.1 _ h H locs cells slots pc ls hk hR hl (by omega) (by omega) ⟨dd, ht⟩
  · exact hk.elim
def o_aret (K : aR → aH → Prop) : aP := fun _ _ _ st h => match st with
  | [.ref a] => K (.inl (some (.ref a))) h
  | [.null] => K (.inl (some .null)) h
  | _ => False
theorem s_aret (dd : decode (mB mi) pc = .ok (.areturn, 1)) (ht : ∃ rt, mT mi = some rt ∧ ((∃ n, rt = .object n) ∨ ∃ t, rt = .array t)) : aSo G mi d mc ms K (o_aret K) pc := by
  intro kc ks L st h hk p e R s m args below meth c Q M F H locs cells slots ls hR hl h1 h2 hL
  unfold o_aret at hk
  split at hk
  · exact F.1 _ h H locs cells slots pc ls hk hR hl (by omega) (by omega) ⟨dd, Or.inr ⟨_, rfl⟩, ht⟩
  · exact F.1 _ h H locs cells slots pc ls hk hR hl (by omega) (by omega) ⟨dd, Or.inl rfl, ht⟩
  · exact hk.elim
end Ops
