/-! a line's row made, put in, taken out -/
section MRows
variable {G : gG} {d : Nat} {h : aH} {m P W C Z A T : Nat} {al tt : Nat → Nat} {fx : Nat → List Nat} {th : Int32} {S : Nat → sB}
theorem m_lineOf (hst : (gl G).stackTraces = false) (hd : 12 ≤ d) (h : aH) (a b c e : Int32) : CT G iX3_lineOf d 1 4 [.int a, .int b, .int c, .int e] h (fun r h' => ∃ q, h q = none ∧ r = .inl (some (.ref q)) ∧ h' = aUp h q (10, [.int a, .int b, .int c, .int e])) := by
  refine ct_of (L := [some (.int a), some (.int b), some (.int c), some (.int e)]) (plainFor_of_name (by decide +kernel)) rfl hst rfl rfl (Nat.le_of_ble_eq_true rfl) ?_
  refine bX3_lineOf_0 (by omega) _ _ _ _ _ ?_
  try simp only [o_sfmt, o_sget, o_salen, o_sbald, o_i2c, o_callS, o_iadd, o_isub, o_imul, o_iand, o_ladd, o_lsub, o_lmul, o_land, o_lxor, o_ineg, o_lneg, o_i2l, o_l2i, o_i2f, o_l2d, o_lcmp, o_dcmp, o_fcmp, o_ldiv, o_lrem, o_fdiv, o_ddiv, o_f2d, o_c, o_iload, o_lload, o_fload, o_dload, o_aload, o_istore, o_lstore, o_fstore, o_dstore, o_astore, o_iinc, o_dup, o_pop, o_dupx1, o_dup2, o_dup2l, o_ifeq, o_iceq, o_ifne, o_icne, o_iflt, o_iclt, o_ifge, o_icge, o_ifgt, o_icgt, o_ifle, o_icle, o_at, o_iret, o_lret, o_fret, o_dret, o_zret, o_cret, o_vret, o_aret, o_get, o_put, o_new, o_ald, o_iast, o_last, o_dast, o_aast, o_alen, o_newa, o_cast, o_acmpeq, o_acmpne, o_calls, o_callv, o_calln, o_calli, o_obj, o_throw, o_callh, o_sw, o_acopy, lg, lset1, lset2, lk, aPop, Value.category, List.map_cons, List.map_nil, List.sum_cons, List.sum_nil, Option.toList, List.cons_append, List.nil_append, true_and, and_true, aTFit, if_true, if_false, kV, eq_self, and_self]
  refine ⟨by decide, by decide, by decide, by decide, fun q hq => ?_⟩
  rw [show (4 : Int32).toNatClampNeg = 4 from rfl]
  refine aArr.mk (aUp_eq _ _ _) (by decide) ⟨rfl, ⟨by decide, by decide⟩, ?_⟩
  refine aArr.mk (aUp_eq _ _ _) (by decide) ⟨rfl, ⟨by decide, by show 1 < 4; decide⟩, ?_⟩
  refine aArr.mk (aUp_eq _ _ _) (by decide) ⟨rfl, ⟨by decide, by show 2 < 4; decide⟩, ?_⟩
  refine aArr.mk (aUp_eq _ _ _) (by decide) ⟨rfl, ⟨by decide, by show 3 < 4; decide⟩, ?_⟩
  refine ⟨q, hq, rfl, ?_⟩
  simp only [aUp_same]
  rfl
/-- a line's row that no bill has -/
def freeR (P W C Z : Nat) (fx : Nat → List Nat) (w : Nat) : Prop := (w ≠ P ∧ w ≠ W ∧ w ≠ C ∧ w ≠ Z) ∧ ∀ j, j < 3 → w ∉ fx j
theorem freeR.fresh {q : Nat} (hM : ModA h m P W C Z A T al tt fx th S) (hq : h q = none) : freeR P W C Z fx q := by
  obtain ⟨hm, hP, hW, hC, hZ, hA, hT, hb, hD⟩ := hM
  refine ⟨⟨(fr_ne hP hq).symm, (fr_ne hW hq).symm, (fr_ne hC hq).symm, (fr_ne hZ hq).symm⟩, fun j hj z => ?_⟩
  obtain ⟨k, hk, rfl⟩ := List.mem_iff_getElem.mp z
  exact fr_ne ((hb j hj).2.2.2.1 k hk) hq rfl
/-- a bill's row of lines and its number of lines written -/
theorem ModA.putV {h1 : aH} {V' : List Value} {xs : List Nat} {ls : Nat → sL} {n : Nat} (hM : ModA h m P W C Z A T al tt fx th S) {i : Nat} (hi : i < 3) (hc0 : (S i).cl = 0 ∨ (n = (S i).n ∧ ∀ k, k < n → (ls k).t = ((S i).ls k).t)) (ha : h1 (al i) = some (15, V')) (hz : h1 Z = some (10, (iL fun k => (S k).n).set i (.int (nI n)))) (hk : ∀ q, q ≠ al i → q ≠ Z → h1 q = h q) (hV : V'.length = 9) (hVx : ∀ k (hk : k < xs.length), V'[k]? = some (.ref (xs[k]))) (hlen : xs.length = n) (hn : n ≤ 9) (hnd : xs.Nodup) (hl : ∀ k (hk : k < xs.length), h (xs[k]) = some (10, lnM (ls k))) (hok : ∀ k, k < n → (ls k).ok) (ht : (S i).cl = 0 → ∀ k, k < n → (ls k).t = 0) (hx : ∀ y ∈ xs, (y ≠ P ∧ y ≠ W ∧ y ≠ C ∧ y ≠ Z) ∧ ∀ j, j < 3 → j ≠ i → y ∉ fx j) : ModA h1 m P W C Z A T al tt (fun j => if j = i then xs else fx j) th (upS S i ((S i).pl, (S i).wy, (S i).cl, n, ls)) := by
  obtain ⟨hm, hP, hW, hC, hZ, hA, hT, hb, ⟨d1, d2, d3⟩⟩ := id hM
  obtain ⟨⟨V, b0, b1⟩, ⟨U0, b2, b3, b3'⟩, b4, b5, b6, ⟨b7, b7p, b7w, b7c⟩, b8, b9⟩ := id (hb i hi)
  have hk2 : ∀ q k v, h q = some (k, v) → k ≠ 15 → q ≠ Z → h1 q = some (k, v) := fun q k v e z1 z2 => (hk q (kd_ne e b0 z1) z2).trans e
  refine hM.upd hi (hk2 _ _ _ hm (by decide) (kd_ne hm hZ (by decide))) ((hk2 _ _ _ hP (by decide) d1.2.2.1).trans (iU S _ sB.pl rfl)) ((hk2 _ _ _ hW (by decide) d1.2.2.2.2.1).trans (iU S _ sB.wy rfl)) ((hk2 _ _ _ hC (by decide) d1.2.2.2.2.2).trans (iU S _ sB.cl rfl)) (hz.trans (iUs S hi _ sB.n rfl)) ((hk2 _ _ _ hA (by decide) (kd_ne hA hZ (by decide))).trans hA.symm) ((hk2 _ _ _ hT (by decide) (kd_ne hT hZ (by decide))).trans hT.symm) ⟨⟨V', ha, hV, hVx⟩, ⟨U0, hk2 _ _ _ b2 (by decide) (kd_ne b2 hZ (by decide)), b3, fun z k hkn => ?_⟩, hlen, fun k hkx => hk2 _ _ _ (hl k hkx) (by decide) (hx _ (List.getElem_mem hkx)).1.2.2.2, hnd, ⟨hn, b7p, b7w, b7c⟩, hok, ht⟩ (fun j hj hne => ?_) hx
  · rcases hc0 with w | ⟨w, w2⟩
    · exact absurd w z
    · have hkn : k < n := hkn
      rw [b3' z k (by omega)]
      exact congrArg (fun z => some (Value.long z)) (w2 k hkn).symm
  · obtain ⟨⟨Vj, c0, -⟩, ⟨U9, c2, -⟩, c4, c5, -⟩ := hb j hj
    refine ⟨hk _ (d3 i hi j hj (Ne.symm hne)).1 (kd_ne c0 hZ (by decide)), hk _ (kd_ne c2 b0 (by decide)) (kd_ne c2 hZ (by decide)), fun y hy => ?_⟩
    obtain ⟨k, hkk, rfl⟩ := List.mem_iff_getElem.mp hy
    exact hk _ (kd_ne (c5 k hkk) b0 (by decide)) (d2 j hj _ hy).2.2.2
theorem m_putIn (hst : (gl G).stackTraces = false) (hd : 12 ≤ d) (hM : ModA h m P W C Z A T al tt fx th S) {i at9 w : Nat} (hi : i < 3) (hc0 : (S i).cl = 0) (ha9 : at9 ≤ (S i).n) (hn : (S i).n < 9) {l : sL} (hw : h w = some (10, lnM l)) (hf : freeR P W C Z fx w) (ho : l.ok) (ht : l.t = 0) : CT G iX3_putIn d 0 0 [.ref m, .int (nI i), .int (nI at9), .ref w] h (fun r h' => r = .inl none ∧ ModA h' m P W C Z A T al tt (fun j => if j = i then (fx i).insertIdx at9 w else fx j) th (upS S i ((S i).pl, (S i).wy, (S i).cl, (S i).n + 1, inL (S i).ls at9 l)) ∧ kMo tt h h') := by
  obtain ⟨hm, hP, hW, hC, hZ, hA, hT, hb, hD⟩ := id hM
  obtain ⟨⟨V, hV, hVl, hVx⟩, ⟨U, hU, hUl, hUt⟩, hlen, hl, hnd, ⟨hn9, hpl, hwy, hcl⟩, hok, hot⟩ := id (hb i hi)
  refine ct_of (L := [some (.ref m), some (.int (nI i)), some (.int (nI at9)), some (.ref w), none]) (plainFor_of_name (by decide +kernel)) rfl hst rfl rfl (Nat.le_of_ble_eq_true rfl) ?_
  refine bX3_putIn_0 (by omega) _ _ _ _ _ ?_
  try simp only [o_sfmt, o_sget, o_salen, o_sbald, o_i2c, o_callS, o_iadd, o_isub, o_imul, o_iand, o_ladd, o_lsub, o_lmul, o_land, o_lxor, o_ineg, o_lneg, o_i2l, o_l2i, o_i2f, o_l2d, o_lcmp, o_dcmp, o_fcmp, o_ldiv, o_lrem, o_fdiv, o_ddiv, o_f2d, o_c, o_iload, o_lload, o_fload, o_dload, o_aload, o_istore, o_lstore, o_fstore, o_dstore, o_astore, o_iinc, o_dup, o_pop, o_dupx1, o_dup2, o_dup2l, o_ifeq, o_iceq, o_ifne, o_icne, o_iflt, o_iclt, o_ifge, o_icge, o_ifgt, o_icgt, o_ifle, o_icle, o_at, o_iret, o_lret, o_fret, o_dret, o_zret, o_cret, o_vret, o_aret, o_get, o_put, o_new, o_ald, o_iast, o_last, o_dast, o_aast, o_alen, o_newa, o_cast, o_acmpeq, o_acmpne, o_calls, o_callv, o_calln, o_calli, o_obj, o_throw, o_callh, o_sw, o_acopy, lg, lset1, lset2, lk, aPop, Value.category, List.map_cons, List.map_nil, List.sum_cons, List.sum_nil, Option.toList, List.cons_append, List.nil_append, true_and, and_true, aTFit, if_true, if_false, kV, eq_self, and_self]
  refine aObj.mk hm (aVal.mk rfl ?_)
  try simp only [o_sfmt, o_sget, o_salen, o_sbald, o_i2c, o_callS, o_iadd, o_isub, o_imul, o_iand, o_ladd, o_lsub, o_lmul, o_land, o_lxor, o_ineg, o_lneg, o_i2l, o_l2i, o_i2f, o_l2d, o_lcmp, o_dcmp, o_fcmp, o_ldiv, o_lrem, o_fdiv, o_ddiv, o_f2d, o_c, o_iload, o_lload, o_fload, o_dload, o_aload, o_istore, o_lstore, o_fstore, o_dstore, o_astore, o_iinc, o_dup, o_pop, o_dupx1, o_dup2, o_dup2l, o_ifeq, o_iceq, o_ifne, o_icne, o_iflt, o_iclt, o_ifge, o_icge, o_ifgt, o_icgt, o_ifle, o_icle, o_at, o_iret, o_lret, o_fret, o_dret, o_zret, o_cret, o_vret, o_aret, o_get, o_put, o_new, o_ald, o_iast, o_last, o_dast, o_aast, o_alen, o_newa, o_cast, o_acmpeq, o_acmpne, o_calls, o_callv, o_calln, o_calli, o_obj, o_throw, o_callh, o_sw, o_acopy, lg, lset1, lset2, lk, aPop, Value.category, List.map_cons, List.map_nil, List.sum_cons, List.sum_nil, Option.toList, List.cons_append, List.nil_append, true_and, and_true, aTFit, if_true, if_false, kV, eq_self, and_self]
  refine aArr.mk hZ (by decide) ⟨by decide, nI_pos (by omega), ?_⟩
  refine aVal.mk (v := (fun k => .int (nI (S k).n)) i) (by rw [nI_clamp (by omega)]; exact v3 (fun k => .int (nI (S k).n)) hi) ?_
  try simp only [o_sfmt, o_sget, o_salen, o_sbald, o_i2c, o_callS, o_iadd, o_isub, o_imul, o_iand, o_ladd, o_lsub, o_lmul, o_land, o_lxor, o_ineg, o_lneg, o_i2l, o_l2i, o_i2f, o_l2d, o_lcmp, o_dcmp, o_fcmp, o_ldiv, o_lrem, o_fdiv, o_ddiv, o_f2d, o_c, o_iload, o_lload, o_fload, o_dload, o_aload, o_istore, o_lstore, o_fstore, o_dstore, o_astore, o_iinc, o_dup, o_pop, o_dupx1, o_dup2, o_dup2l, o_ifeq, o_iceq, o_ifne, o_icne, o_iflt, o_iclt, o_ifge, o_icge, o_ifgt, o_icgt, o_ifle, o_icle, o_at, o_iret, o_lret, o_fret, o_dret, o_zret, o_cret, o_vret, o_aret, o_get, o_put, o_new, o_ald, o_iast, o_last, o_dast, o_aast, o_alen, o_newa, o_cast, o_acmpeq, o_acmpne, o_calls, o_callv, o_calln, o_calli, o_obj, o_throw, o_callh, o_sw, o_acopy, lg, lset1, lset2, lk, aPop, Value.category, List.map_cons, List.map_nil, List.sum_cons, List.sum_nil, Option.toList, List.cons_append, List.nil_append, true_and, and_true, aTFit, if_true, if_false, kV, eq_self, and_self]
  suffices H : ∀ (v k : Nat), at9 + v = k → k ≤ (S i).n → aSo G iX3_putIn d _ _ _ (fun kc ks L st h1 => L = [some (.ref m), some (.int (nI i)), some (.int (nI at9)), some (.ref w), some (.int (nI k))] ∧ st = [] ∧ (∃ V', h1 (al i) = some (15, V') ∧ V'.length = 9 ∧ ∀ p, p ≤ (S i).n → (k < p → V'[p]? = V[p - 1]?) ∧ (¬ k < p → V'[p]? = V[p]?)) ∧ ∀ q, q ≠ al i → h1 q = h q) 8 by
    refine H ((S i).n - at9) (S i).n (by omega) (Nat.le_refl _) _ _ _ _ _ ⟨rfl, rfl, ⟨V, hV, hVl, fun p hp => ⟨fun z => by omega, fun _ => rfl⟩⟩, fun _ _ => rfl⟩
  have hne : ∀ q k v, h q = some (k, v) → k ≠ 15 → q ≠ al i := fun q k v e z => kd_ne e hV z
  intro v
  induction v with
  | zero =>
    rintro k hk hkn kc ks L st h1 ⟨rfl, rfl, ⟨V', e1, e2, e3⟩, hq⟩
    obtain rfl : at9 = k := by omega
    have hm1 := (hq m (hne _ _ _ hm (by decide))).trans hm
    have hA1 := (hq A (hne _ _ _ hA (by decide))).trans hA
    have hZ1 := (hq Z (hne _ _ _ hZ (by decide))).trans hZ
    have hw1 := (hq w (hne _ _ _ hw (by decide))).trans hw
    have hZa : Z ≠ al i := hne _ _ _ hZ (by decide)
    have hma : m ≠ al i := hne _ _ _ hm (by decide)
    refine bX3_putIn_8 (by omega) _ _ _ _ _ ?_
    try simp only [o_sfmt, o_sget, o_salen, o_sbald, o_i2c, o_callS, o_iadd, o_isub, o_imul, o_iand, o_ladd, o_lsub, o_lmul, o_land, o_lxor, o_ineg, o_lneg, o_i2l, o_l2i, o_i2f, o_l2d, o_lcmp, o_dcmp, o_fcmp, o_ldiv, o_lrem, o_fdiv, o_ddiv, o_f2d, o_c, o_iload, o_lload, o_fload, o_dload, o_aload, o_istore, o_lstore, o_fstore, o_dstore, o_astore, o_iinc, o_dup, o_pop, o_dupx1, o_dup2, o_dup2l, o_ifeq, o_iceq, o_ifne, o_icne, o_iflt, o_iclt, o_ifge, o_icge, o_ifgt, o_icgt, o_ifle, o_icle, o_at, o_iret, o_lret, o_fret, o_dret, o_zret, o_cret, o_vret, o_aret, o_get, o_put, o_new, o_ald, o_iast, o_last, o_dast, o_aast, o_alen, o_newa, o_cast, o_acmpeq, o_acmpne, o_calls, o_callv, o_calln, o_calli, o_obj, o_throw, o_callh, o_sw, o_acopy, lg, lset1, lset2, lk, aPop, Value.category, List.map_cons, List.map_nil, List.sum_cons, List.sum_nil, Option.toList, List.cons_append, List.nil_append, true_and, and_true, aTFit, if_true, if_false, kV, eq_self, and_self]
    refine ⟨fun _ => ?_, fun c => absurd (nI_le (Nat.le_refl _) (by omega)) c⟩
    refine bX3_putIn_40 (by omega) _ _ _ _ _ ?_
    try simp only [o_sfmt, o_sget, o_salen, o_sbald, o_i2c, o_callS, o_iadd, o_isub, o_imul, o_iand, o_ladd, o_lsub, o_lmul, o_land, o_lxor, o_ineg, o_lneg, o_i2l, o_l2i, o_i2f, o_l2d, o_lcmp, o_dcmp, o_fcmp, o_ldiv, o_lrem, o_fdiv, o_ddiv, o_f2d, o_c, o_iload, o_lload, o_fload, o_dload, o_aload, o_istore, o_lstore, o_fstore, o_dstore, o_astore, o_iinc, o_dup, o_pop, o_dupx1, o_dup2, o_dup2l, o_ifeq, o_iceq, o_ifne, o_icne, o_iflt, o_iclt, o_ifge, o_icge, o_ifgt, o_icgt, o_ifle, o_icle, o_at, o_iret, o_lret, o_fret, o_dret, o_zret, o_cret, o_vret, o_aret, o_get, o_put, o_new, o_ald, o_iast, o_last, o_dast, o_aast, o_alen, o_newa, o_cast, o_acmpeq, o_acmpne, o_calls, o_callv, o_calln, o_calli, o_obj, o_throw, o_callh, o_sw, o_acopy, lg, lset1, lset2, lk, aPop, Value.category, List.map_cons, List.map_nil, List.sum_cons, List.sum_nil, Option.toList, List.cons_append, List.nil_append, true_and, and_true, aTFit, if_true, if_false, kV, eq_self, and_self]
    refine aObj.mk hm1 (aVal.mk rfl ?_)
    try simp only [o_sfmt, o_sget, o_salen, o_sbald, o_i2c, o_callS, o_iadd, o_isub, o_imul, o_iand, o_ladd, o_lsub, o_lmul, o_land, o_lxor, o_ineg, o_lneg, o_i2l, o_l2i, o_i2f, o_l2d, o_lcmp, o_dcmp, o_fcmp, o_ldiv, o_lrem, o_fdiv, o_ddiv, o_f2d, o_c, o_iload, o_lload, o_fload, o_dload, o_aload, o_istore, o_lstore, o_fstore, o_dstore, o_astore, o_iinc, o_dup, o_pop, o_dupx1, o_dup2, o_dup2l, o_ifeq, o_iceq, o_ifne, o_icne, o_iflt, o_iclt, o_ifge, o_icge, o_ifgt, o_icgt, o_ifle, o_icle, o_at, o_iret, o_lret, o_fret, o_dret, o_zret, o_cret, o_vret, o_aret, o_get, o_put, o_new, o_ald, o_iast, o_last, o_dast, o_aast, o_alen, o_newa, o_cast, o_acmpeq, o_acmpne, o_calls, o_callv, o_calln, o_calli, o_obj, o_throw, o_callh, o_sw, o_acopy, lg, lset1, lset2, lk, aPop, Value.category, List.map_cons, List.map_nil, List.sum_cons, List.sum_nil, Option.toList, List.cons_append, List.nil_append, true_and, and_true, aTFit, if_true, if_false, kV, eq_self, and_self]
    refine aArr.mk hA1 (by decide) ⟨by decide, nI_pos (by omega), ?_⟩
    refine aVal.mk (v := .ref (al i)) (by rw [nI_clamp (by omega)]; exact v3 (fun k => .ref (al k)) hi) ?_
    try simp only [o_sfmt, o_sget, o_salen, o_sbald, o_i2c, o_callS, o_iadd, o_isub, o_imul, o_iand, o_ladd, o_lsub, o_lmul, o_land, o_lxor, o_ineg, o_lneg, o_i2l, o_l2i, o_i2f, o_l2d, o_lcmp, o_dcmp, o_fcmp, o_ldiv, o_lrem, o_fdiv, o_ddiv, o_f2d, o_c, o_iload, o_lload, o_fload, o_dload, o_aload, o_istore, o_lstore, o_fstore, o_dstore, o_astore, o_iinc, o_dup, o_pop, o_dupx1, o_dup2, o_dup2l, o_ifeq, o_iceq, o_ifne, o_icne, o_iflt, o_iclt, o_ifge, o_icge, o_ifgt, o_icgt, o_ifle, o_icle, o_at, o_iret, o_lret, o_fret, o_dret, o_zret, o_cret, o_vret, o_aret, o_get, o_put, o_new, o_ald, o_iast, o_last, o_dast, o_aast, o_alen, o_newa, o_cast, o_acmpeq, o_acmpne, o_calls, o_callv, o_calln, o_calli, o_obj, o_throw, o_callh, o_sw, o_acopy, lg, lset1, lset2, lk, aPop, Value.category, List.map_cons, List.map_nil, List.sum_cons, List.sum_nil, Option.toList, List.cons_append, List.nil_append, true_and, and_true, aTFit, if_true, if_false, kV, eq_self, and_self]
    refine aArr.mk e1 (by decide) ⟨aKind.mk hw1 (by decide), aIn_nI (by omega) (by omega), ?_⟩
    refine aObj.mk ((aUp_ne hma).trans hm1) (aVal.mk rfl ?_)
    try simp only [o_sfmt, o_sget, o_salen, o_sbald, o_i2c, o_callS, o_iadd, o_isub, o_imul, o_iand, o_ladd, o_lsub, o_lmul, o_land, o_lxor, o_ineg, o_lneg, o_i2l, o_l2i, o_i2f, o_l2d, o_lcmp, o_dcmp, o_fcmp, o_ldiv, o_lrem, o_fdiv, o_ddiv, o_f2d, o_c, o_iload, o_lload, o_fload, o_dload, o_aload, o_istore, o_lstore, o_fstore, o_dstore, o_astore, o_iinc, o_dup, o_pop, o_dupx1, o_dup2, o_dup2l, o_ifeq, o_iceq, o_ifne, o_icne, o_iflt, o_iclt, o_ifge, o_icge, o_ifgt, o_icgt, o_ifle, o_icle, o_at, o_iret, o_lret, o_fret, o_dret, o_zret, o_cret, o_vret, o_aret, o_get, o_put, o_new, o_ald, o_iast, o_last, o_dast, o_aast, o_alen, o_newa, o_cast, o_acmpeq, o_acmpne, o_calls, o_callv, o_calln, o_calli, o_obj, o_throw, o_callh, o_sw, o_acopy, lg, lset1, lset2, lk, aPop, Value.category, List.map_cons, List.map_nil, List.sum_cons, List.sum_nil, Option.toList, List.cons_append, List.nil_append, true_and, and_true, aTFit, if_true, if_false, kV, eq_self, and_self]
    refine aArr.mk ((aUp_ne hZa).trans hZ1) (by decide) ⟨by decide, nI_pos (by omega), ?_⟩
    refine aVal.mk (v := .int (nI (S i).n)) (by rw [nI_clamp (by omega)]; exact v3 (fun k => .int (nI (S k).n)) hi) ?_
    try simp only [o_sfmt, o_sget, o_salen, o_sbald, o_i2c, o_callS, o_iadd, o_isub, o_imul, o_iand, o_ladd, o_lsub, o_lmul, o_land, o_lxor, o_ineg, o_lneg, o_i2l, o_l2i, o_i2f, o_l2d, o_lcmp, o_dcmp, o_fcmp, o_ldiv, o_lrem, o_fdiv, o_ddiv, o_f2d, o_c, o_iload, o_lload, o_fload, o_dload, o_aload, o_istore, o_lstore, o_fstore, o_dstore, o_astore, o_iinc, o_dup, o_pop, o_dupx1, o_dup2, o_dup2l, o_ifeq, o_iceq, o_ifne, o_icne, o_iflt, o_iclt, o_ifge, o_icge, o_ifgt, o_icgt, o_ifle, o_icle, o_at, o_iret, o_lret, o_fret, o_dret, o_zret, o_cret, o_vret, o_aret, o_get, o_put, o_new, o_ald, o_iast, o_last, o_dast, o_aast, o_alen, o_newa, o_cast, o_acmpeq, o_acmpne, o_calls, o_callv, o_calln, o_calli, o_obj, o_throw, o_callh, o_sw, o_acopy, lg, lset1, lset2, lk, aPop, Value.category, List.map_cons, List.map_nil, List.sum_cons, List.sum_nil, Option.toList, List.cons_append, List.nil_append, true_and, and_true, aTFit, if_true, if_false, kV, eq_self, and_self]
    refine aArr.mk ((aUp_ne hZa).trans hZ1) (by decide) ⟨rfl, aIn_nI (n := 3) hi (by decide), ?_⟩
    rw [nI_1, nI_clamp (by omega), nI_clamp (by omega)]
    have hlen2 : ((fx i).insertIdx at9 w).length = (S i).n + 1 := by rw [List.length_insertIdx_of_le_length (by omega), hlen]
    have hget : ∀ p (hp : p < ((fx i).insertIdx at9 w).length), (p < at9 ∧ p < (fx i).length ∧ ((fx i).insertIdx at9 w)[p]? = (fx i)[p]?) ∨ (p = at9 ∧ ((fx i).insertIdx at9 w)[p]? = some w) ∨ (at9 < p ∧ p - 1 < (fx i).length ∧ ((fx i).insertIdx at9 w)[p]? = (fx i)[p - 1]?) := by
      intro p hp
      have := ins_get (p := p) (q := w) (i := at9) (ys := fx i) (by omega)
      by_cases c1 : p < at9
      · rw [if_pos c1] at this; exact Or.inl ⟨c1, by omega, this⟩
      · rw [if_neg c1] at this
        by_cases c2 : p = at9
        · rw [if_pos c2] at this; exact Or.inr (Or.inl ⟨c2, this⟩)
        · rw [if_neg c2] at this; exact Or.inr (Or.inr ⟨by omega, by omega, this⟩)
    refine ⟨hM.putV (V' := V'.set at9 (.ref w)) hi (Or.inl hc0) ((aUp_ne (Ne.symm hZa)).trans (aUp_eq _ _ _)) (aUp_eq _ _ _) (fun q z1 z2 => (aUp_ne z2).trans ((aUp_ne z1).trans (hq q z1))) (by rw [List.length_set]; exact e2) (fun p hp => ?_) hlen2 (by omega) (ins_nd (by omega) hnd (hf.2 i hi)) (fun p hp => ?_) (fun p hp => ?_) (fun _ p hp => ?_) (fun y hy => ?_), ?_⟩
    · obtain ⟨f1, f2⟩ := e3 p (by omega)
      have hx9 := ex_get hp
      rcases hget p hp with ⟨g1, g2, g3⟩ | ⟨g1, g3⟩ | ⟨g1, g2, g3⟩
      · rw [List.getElem?_set_ne (by omega), f2 (by omega), hVx p g2]
        rw [g3, ex_get g2] at hx9
        rw [Option.some.inj hx9]
      · subst g1
        rw [List.getElem?_set_self (by omega)]
        rw [g3] at hx9
        exact congrArg (fun z => some (Value.ref z)) (Option.some.inj hx9)
      · rw [List.getElem?_set_ne (by omega), f1 (by omega), hVx (p - 1) g2]
        rw [g3, ex_get g2] at hx9
        rw [Option.some.inj hx9]
    · have hx9 := ex_get hp
      show _ = some (10, lnM (if p < at9 then (S i).ls p else if p = at9 then l else (S i).ls (p - 1)))
      rcases hget p hp with ⟨g1, g2, g3⟩ | ⟨g1, g3⟩ | ⟨g1, g2, g3⟩
      · rw [g3, ex_get g2] at hx9
        rw [← Option.some.inj hx9, if_pos g1]
        exact hl p g2
      · rw [g3] at hx9
        rw [← Option.some.inj hx9, if_neg (by omega), if_pos g1]
        exact hw
      · rw [g3, ex_get g2] at hx9
        rw [← Option.some.inj hx9, if_neg (by omega), if_neg (by omega)]
        exact hl (p - 1) g2
    · show (if p < at9 then (S i).ls p else if p = at9 then l else (S i).ls (p - 1)).ok
      split
      · exact hok p (by omega)
      · split
        · exact ho
        · exact hok (p - 1) (by omega)
    · show (if p < at9 then (S i).ls p else if p = at9 then l else (S i).ls (p - 1)).t = 0
      split
      · exact hot hc0 p (by omega)
      · split
        · exact ht
        · exact hot hc0 (p - 1) (by omega)
    · rcases (List.mem_insertIdx (by omega)).mp hy with z | z
      · rw [z]
        exact ⟨hf.1, fun j hj _ => hf.2 j hj⟩
      · exact hM.xsok hi y z
    · refine kMo.trans (h1 := h1) (fun q k v e z1 z2 z3 z4 => (hq q (hne q k v e z3)).trans e) ((kMo.put e1 (Or.inr (Or.inr (Or.inl rfl)))).trans (kMo.put ((aUp_ne hZa).trans hZ1) (Or.inr (Or.inl rfl))))
  | succ v ih =>
    rintro k hk hkn kc ks L st h1 ⟨rfl, rfl, ⟨V', e1, e2, e3⟩, hq⟩
    have hm1 := (hq m (hne _ _ _ hm (by decide))).trans hm
    have hA1 := (hq A (hne _ _ _ hA (by decide))).trans hA
    have hvk : V'[k - 1]? = some (.ref ((fx i)[k - 1]'(by omega))) := by
      rw [(e3 (k - 1) (by omega)).2 (by omega)]
      exact hVx (k - 1) (by omega)
    have hrow := (hq _ (hne _ _ _ (hl (k - 1) (by omega)) (by decide))).trans (hl (k - 1) (by omega))
    refine bX3_putIn_8 (by omega) _ _ _ _ _ ?_
    try simp only [o_sfmt, o_sget, o_salen, o_sbald, o_i2c, o_callS, o_iadd, o_isub, o_imul, o_iand, o_ladd, o_lsub, o_lmul, o_land, o_lxor, o_ineg, o_lneg, o_i2l, o_l2i, o_i2f, o_l2d, o_lcmp, o_dcmp, o_fcmp, o_ldiv, o_lrem, o_fdiv, o_ddiv, o_f2d, o_c, o_iload, o_lload, o_fload, o_dload, o_aload, o_istore, o_lstore, o_fstore, o_dstore, o_astore, o_iinc, o_dup, o_pop, o_dupx1, o_dup2, o_dup2l, o_ifeq, o_iceq, o_ifne, o_icne, o_iflt, o_iclt, o_ifge, o_icge, o_ifgt, o_icgt, o_ifle, o_icle, o_at, o_iret, o_lret, o_fret, o_dret, o_zret, o_cret, o_vret, o_aret, o_get, o_put, o_new, o_ald, o_iast, o_last, o_dast, o_aast, o_alen, o_newa, o_cast, o_acmpeq, o_acmpne, o_calls, o_callv, o_calln, o_calli, o_obj, o_throw, o_callh, o_sw, o_acopy, lg, lset1, lset2, lk, aPop, Value.category, List.map_cons, List.map_nil, List.sum_cons, List.sum_nil, Option.toList, List.cons_append, List.nil_append, true_and, and_true, aTFit, if_true, if_false, kV, eq_self, and_self]
    refine ⟨fun c => absurd c (nI_ge (by omega) (by omega)), fun _ => ?_⟩
    refine aObj.mk hm1 (aVal.mk rfl ?_)
    try simp only [o_sfmt, o_sget, o_salen, o_sbald, o_i2c, o_callS, o_iadd, o_isub, o_imul, o_iand, o_ladd, o_lsub, o_lmul, o_land, o_lxor, o_ineg, o_lneg, o_i2l, o_l2i, o_i2f, o_l2d, o_lcmp, o_dcmp, o_fcmp, o_ldiv, o_lrem, o_fdiv, o_ddiv, o_f2d, o_c, o_iload, o_lload, o_fload, o_dload, o_aload, o_istore, o_lstore, o_fstore, o_dstore, o_astore, o_iinc, o_dup, o_pop, o_dupx1, o_dup2, o_dup2l, o_ifeq, o_iceq, o_ifne, o_icne, o_iflt, o_iclt, o_ifge, o_icge, o_ifgt, o_icgt, o_ifle, o_icle, o_at, o_iret, o_lret, o_fret, o_dret, o_zret, o_cret, o_vret, o_aret, o_get, o_put, o_new, o_ald, o_iast, o_last, o_dast, o_aast, o_alen, o_newa, o_cast, o_acmpeq, o_acmpne, o_calls, o_callv, o_calln, o_calli, o_obj, o_throw, o_callh, o_sw, o_acopy, lg, lset1, lset2, lk, aPop, Value.category, List.map_cons, List.map_nil, List.sum_cons, List.sum_nil, Option.toList, List.cons_append, List.nil_append, true_and, and_true, aTFit, if_true, if_false, kV, eq_self, and_self]
    refine aArr.mk hA1 (by decide) ⟨by decide, nI_pos (by omega), ?_⟩
    refine aVal.mk (v := .ref (al i)) (by rw [nI_clamp (by omega)]; exact v3 (fun k => .ref (al k)) hi) ?_
    try simp only [o_sfmt, o_sget, o_salen, o_sbald, o_i2c, o_callS, o_iadd, o_isub, o_imul, o_iand, o_ladd, o_lsub, o_lmul, o_land, o_lxor, o_ineg, o_lneg, o_i2l, o_l2i, o_i2f, o_l2d, o_lcmp, o_dcmp, o_fcmp, o_ldiv, o_lrem, o_fdiv, o_ddiv, o_f2d, o_c, o_iload, o_lload, o_fload, o_dload, o_aload, o_istore, o_lstore, o_fstore, o_dstore, o_astore, o_iinc, o_dup, o_pop, o_dupx1, o_dup2, o_dup2l, o_ifeq, o_iceq, o_ifne, o_icne, o_iflt, o_iclt, o_ifge, o_icge, o_ifgt, o_icgt, o_ifle, o_icle, o_at, o_iret, o_lret, o_fret, o_dret, o_zret, o_cret, o_vret, o_aret, o_get, o_put, o_new, o_ald, o_iast, o_last, o_dast, o_aast, o_alen, o_newa, o_cast, o_acmpeq, o_acmpne, o_calls, o_callv, o_calln, o_calli, o_obj, o_throw, o_callh, o_sw, o_acopy, lg, lset1, lset2, lk, aPop, Value.category, List.map_cons, List.map_nil, List.sum_cons, List.sum_nil, Option.toList, List.cons_append, List.nil_append, true_and, and_true, aTFit, if_true, if_false, kV, eq_self, and_self]
    refine aObj.mk hm1 (aVal.mk rfl ?_)
    try simp only [o_sfmt, o_sget, o_salen, o_sbald, o_i2c, o_callS, o_iadd, o_isub, o_imul, o_iand, o_ladd, o_lsub, o_lmul, o_land, o_lxor, o_ineg, o_lneg, o_i2l, o_l2i, o_i2f, o_l2d, o_lcmp, o_dcmp, o_fcmp, o_ldiv, o_lrem, o_fdiv, o_ddiv, o_f2d, o_c, o_iload, o_lload, o_fload, o_dload, o_aload, o_istore, o_lstore, o_fstore, o_dstore, o_astore, o_iinc, o_dup, o_pop, o_dupx1, o_dup2, o_dup2l, o_ifeq, o_iceq, o_ifne, o_icne, o_iflt, o_iclt, o_ifge, o_icge, o_ifgt, o_icgt, o_ifle, o_icle, o_at, o_iret, o_lret, o_fret, o_dret, o_zret, o_cret, o_vret, o_aret, o_get, o_put, o_new, o_ald, o_iast, o_last, o_dast, o_aast, o_alen, o_newa, o_cast, o_acmpeq, o_acmpne, o_calls, o_callv, o_calln, o_calli, o_obj, o_throw, o_callh, o_sw, o_acopy, lg, lset1, lset2, lk, aPop, Value.category, List.map_cons, List.map_nil, List.sum_cons, List.sum_nil, Option.toList, List.cons_append, List.nil_append, true_and, and_true, aTFit, if_true, if_false, kV, eq_self, and_self]
    refine aArr.mk hA1 (by decide) ⟨by decide, nI_pos (by omega), ?_⟩
    refine aVal.mk (v := .ref (al i)) (by rw [nI_clamp (by omega)]; exact v3 (fun k => .ref (al k)) hi) ?_
    try simp only [o_sfmt, o_sget, o_salen, o_sbald, o_i2c, o_callS, o_iadd, o_isub, o_imul, o_iand, o_ladd, o_lsub, o_lmul, o_land, o_lxor, o_ineg, o_lneg, o_i2l, o_l2i, o_i2f, o_l2d, o_lcmp, o_dcmp, o_fcmp, o_ldiv, o_lrem, o_fdiv, o_ddiv, o_f2d, o_c, o_iload, o_lload, o_fload, o_dload, o_aload, o_istore, o_lstore, o_fstore, o_dstore, o_astore, o_iinc, o_dup, o_pop, o_dupx1, o_dup2, o_dup2l, o_ifeq, o_iceq, o_ifne, o_icne, o_iflt, o_iclt, o_ifge, o_icge, o_ifgt, o_icgt, o_ifle, o_icle, o_at, o_iret, o_lret, o_fret, o_dret, o_zret, o_cret, o_vret, o_aret, o_get, o_put, o_new, o_ald, o_iast, o_last, o_dast, o_aast, o_alen, o_newa, o_cast, o_acmpeq, o_acmpne, o_calls, o_callv, o_calln, o_calli, o_obj, o_throw, o_callh, o_sw, o_acopy, lg, lset1, lset2, lk, aPop, Value.category, List.map_cons, List.map_nil, List.sum_cons, List.sum_nil, Option.toList, List.cons_append, List.nil_append, true_and, and_true, aTFit, if_true, if_false, kV, eq_self, and_self]
    rw [nI_sub1 (by omega)]
    refine aArr.mk e1 (by decide) ⟨by decide, nI_pos (by omega), ?_⟩
    refine aVal.mk (v := .ref ((fx i)[k - 1]'(by omega))) (by rw [nI_clamp (by omega)]; exact hvk) ?_
    try simp only [o_sfmt, o_sget, o_salen, o_sbald, o_i2c, o_callS, o_iadd, o_isub, o_imul, o_iand, o_ladd, o_lsub, o_lmul, o_land, o_lxor, o_ineg, o_lneg, o_i2l, o_l2i, o_i2f, o_l2d, o_lcmp, o_dcmp, o_fcmp, o_ldiv, o_lrem, o_fdiv, o_ddiv, o_f2d, o_c, o_iload, o_lload, o_fload, o_dload, o_aload, o_istore, o_lstore, o_fstore, o_dstore, o_astore, o_iinc, o_dup, o_pop, o_dupx1, o_dup2, o_dup2l, o_ifeq, o_iceq, o_ifne, o_icne, o_iflt, o_iclt, o_ifge, o_icge, o_ifgt, o_icgt, o_ifle, o_icle, o_at, o_iret, o_lret, o_fret, o_dret, o_zret, o_cret, o_vret, o_aret, o_get, o_put, o_new, o_ald, o_iast, o_last, o_dast, o_aast, o_alen, o_newa, o_cast, o_acmpeq, o_acmpne, o_calls, o_callv, o_calln, o_calli, o_obj, o_throw, o_callh, o_sw, o_acopy, lg, lset1, lset2, lk, aPop, Value.category, List.map_cons, List.map_nil, List.sum_cons, List.sum_nil, Option.toList, List.cons_append, List.nil_append, true_and, and_true, aTFit, if_true, if_false, kV, eq_self, and_self]
    refine aArr.mk e1 (by decide) ⟨aKind.mk hrow (by decide), aIn_nI (by omega) (by omega), ?_⟩
    rw [nI_clamp (by omega), show nI k + -1 = nI (k - 1) by rw [← nI_sub1 (by omega), Int32.sub_eq_add_neg]]
    refine ih (k - 1) (by omega) (by omega) _ _ _ _ _ ⟨rfl, rfl, ⟨_, aUp_eq _ _ _, by rw [List.length_set]; exact e2, fun p hp => ?_⟩, fun q z => (aUp_ne z).trans (hq q z)⟩
    obtain ⟨f1, f2⟩ := e3 p hp
    by_cases c : p = k
    · subst c
      refine ⟨fun _ => ?_, fun z => by omega⟩
      rw [List.getElem?_set_self (by omega), hVx (p - 1) (by omega)]
    · rw [List.getElem?_set_ne (by omega)]
      exact ⟨fun z => f1 (by omega), fun z => f2 (by omega)⟩
theorem m_takeOut (hst : (gl G).stackTraces = false) (hd : 12 ≤ d) (hM : ModA h m P W C Z A T al tt fx th S) {i at9 : Nat} (hi : i < 3) (hc0 : (S i).cl = 0) (ha9 : at9 < (S i).n) (hax : at9 < (fx i).length) : CT G iX3_takeOut d 0 0 [.ref m, .int (nI i), .int (nI at9)] h (fun r h' => r = .inl (some (.ref ((fx i)[at9]))) ∧ ModA h' m P W C Z A T al tt (fun j => if j = i then (fx i).eraseIdx at9 else fx j) th (upS S i ((S i).pl, (S i).wy, (S i).cl, (S i).n - 1, erL (S i).ls at9)) ∧ h' ((fx i)[at9]) = some (10, lnM ((S i).ls at9)) ∧ freeR P W C Z (fun j => if j = i then (fx i).eraseIdx at9 else fx j) ((fx i)[at9]) ∧ kMo tt h h') := by
  obtain ⟨hm, hP, hW, hC, hZ, hA, hT, hb, ⟨d1, d2, d3⟩⟩ := id hM
  obtain ⟨⟨V, hV, hVl, hVx⟩, ⟨U, hU, hUl, hUt⟩, hlen, hl, hnd, ⟨hn9, hpl, hwy, hcl⟩, hok, hot⟩ := id (hb i hi)
  have hZa : Z ≠ al i := kd_ne hZ hV (by decide)
  have hmZ : m ≠ Z := kd_ne hm hZ (by decide)
  have hAZ : A ≠ Z := kd_ne hA hZ (by decide)
  refine ct_of (L := [some (.ref m), some (.int (nI i)), some (.int (nI at9)), none, none]) (plainFor_of_name (by decide +kernel)) rfl hst rfl rfl (Nat.le_of_ble_eq_true rfl) ?_
  refine bX3_takeOut_0 (by omega) _ _ _ _ _ ?_
  try simp only [o_sfmt, o_sget, o_salen, o_sbald, o_i2c, o_callS, o_iadd, o_isub, o_imul, o_iand, o_ladd, o_lsub, o_lmul, o_land, o_lxor, o_ineg, o_lneg, o_i2l, o_l2i, o_i2f, o_l2d, o_lcmp, o_dcmp, o_fcmp, o_ldiv, o_lrem, o_fdiv, o_ddiv, o_f2d, o_c, o_iload, o_lload, o_fload, o_dload, o_aload, o_istore, o_lstore, o_fstore, o_dstore, o_astore, o_iinc, o_dup, o_pop, o_dupx1, o_dup2, o_dup2l, o_ifeq, o_iceq, o_ifne, o_icne, o_iflt, o_iclt, o_ifge, o_icge, o_ifgt, o_icgt, o_ifle, o_icle, o_at, o_iret, o_lret, o_fret, o_dret, o_zret, o_cret, o_vret, o_aret, o_get, o_put, o_new, o_ald, o_iast, o_last, o_dast, o_aast, o_alen, o_newa, o_cast, o_acmpeq, o_acmpne, o_calls, o_callv, o_calln, o_calli, o_obj, o_throw, o_callh, o_sw, o_acopy, lg, lset1, lset2, lk, aPop, Value.category, List.map_cons, List.map_nil, List.sum_cons, List.sum_nil, Option.toList, List.cons_append, List.nil_append, true_and, and_true, aTFit, if_true, if_false, kV, eq_self, and_self]
  refine aObj.mk hm (aVal.mk rfl ?_)
  try simp only [o_sfmt, o_sget, o_salen, o_sbald, o_i2c, o_callS, o_iadd, o_isub, o_imul, o_iand, o_ladd, o_lsub, o_lmul, o_land, o_lxor, o_ineg, o_lneg, o_i2l, o_l2i, o_i2f, o_l2d, o_lcmp, o_dcmp, o_fcmp, o_ldiv, o_lrem, o_fdiv, o_ddiv, o_f2d, o_c, o_iload, o_lload, o_fload, o_dload, o_aload, o_istore, o_lstore, o_fstore, o_dstore, o_astore, o_iinc, o_dup, o_pop, o_dupx1, o_dup2, o_dup2l, o_ifeq, o_iceq, o_ifne, o_icne, o_iflt, o_iclt, o_ifge, o_icge, o_ifgt, o_icgt, o_ifle, o_icle, o_at, o_iret, o_lret, o_fret, o_dret, o_zret, o_cret, o_vret, o_aret, o_get, o_put, o_new, o_ald, o_iast, o_last, o_dast, o_aast, o_alen, o_newa, o_cast, o_acmpeq, o_acmpne, o_calls, o_callv, o_calln, o_calli, o_obj, o_throw, o_callh, o_sw, o_acopy, lg, lset1, lset2, lk, aPop, Value.category, List.map_cons, List.map_nil, List.sum_cons, List.sum_nil, Option.toList, List.cons_append, List.nil_append, true_and, and_true, aTFit, if_true, if_false, kV, eq_self, and_self]
  refine aArr.mk hA (by decide) ⟨by decide, nI_pos (by omega), ?_⟩
  refine aVal.mk (v := .ref (al i)) (by rw [nI_clamp (by omega)]; exact v3 (fun k => .ref (al k)) hi) ?_
  try simp only [o_sfmt, o_sget, o_salen, o_sbald, o_i2c, o_callS, o_iadd, o_isub, o_imul, o_iand, o_ladd, o_lsub, o_lmul, o_land, o_lxor, o_ineg, o_lneg, o_i2l, o_l2i, o_i2f, o_l2d, o_lcmp, o_dcmp, o_fcmp, o_ldiv, o_lrem, o_fdiv, o_ddiv, o_f2d, o_c, o_iload, o_lload, o_fload, o_dload, o_aload, o_istore, o_lstore, o_fstore, o_dstore, o_astore, o_iinc, o_dup, o_pop, o_dupx1, o_dup2, o_dup2l, o_ifeq, o_iceq, o_ifne, o_icne, o_iflt, o_iclt, o_ifge, o_icge, o_ifgt, o_icgt, o_ifle, o_icle, o_at, o_iret, o_lret, o_fret, o_dret, o_zret, o_cret, o_vret, o_aret, o_get, o_put, o_new, o_ald, o_iast, o_last, o_dast, o_aast, o_alen, o_newa, o_cast, o_acmpeq, o_acmpne, o_calls, o_callv, o_calln, o_calli, o_obj, o_throw, o_callh, o_sw, o_acopy, lg, lset1, lset2, lk, aPop, Value.category, List.map_cons, List.map_nil, List.sum_cons, List.sum_nil, Option.toList, List.cons_append, List.nil_append, true_and, and_true, aTFit, if_true, if_false, kV, eq_self, and_self]
  refine aArr.mk hV (by decide) ⟨by decide, nI_pos (by omega), ?_⟩
  refine aVal.mk (v := .ref ((fx i)[at9]'(by omega))) (by rw [nI_clamp (by omega)]; exact hVx at9 (by omega)) ?_
  try simp only [o_sfmt, o_sget, o_salen, o_sbald, o_i2c, o_callS, o_iadd, o_isub, o_imul, o_iand, o_ladd, o_lsub, o_lmul, o_land, o_lxor, o_ineg, o_lneg, o_i2l, o_l2i, o_i2f, o_l2d, o_lcmp, o_dcmp, o_fcmp, o_ldiv, o_lrem, o_fdiv, o_ddiv, o_f2d, o_c, o_iload, o_lload, o_fload, o_dload, o_aload, o_istore, o_lstore, o_fstore, o_dstore, o_astore, o_iinc, o_dup, o_pop, o_dupx1, o_dup2, o_dup2l, o_ifeq, o_iceq, o_ifne, o_icne, o_iflt, o_iclt, o_ifge, o_icge, o_ifgt, o_icgt, o_ifle, o_icle, o_at, o_iret, o_lret, o_fret, o_dret, o_zret, o_cret, o_vret, o_aret, o_get, o_put, o_new, o_ald, o_iast, o_last, o_dast, o_aast, o_alen, o_newa, o_cast, o_acmpeq, o_acmpne, o_calls, o_callv, o_calln, o_calli, o_obj, o_throw, o_callh, o_sw, o_acopy, lg, lset1, lset2, lk, aPop, Value.category, List.map_cons, List.map_nil, List.sum_cons, List.sum_nil, Option.toList, List.cons_append, List.nil_append, true_and, and_true, aTFit, if_true, if_false, kV, eq_self, and_self]
  refine aObj.mk hm (aVal.mk rfl ?_)
  try simp only [o_sfmt, o_sget, o_salen, o_sbald, o_i2c, o_callS, o_iadd, o_isub, o_imul, o_iand, o_ladd, o_lsub, o_lmul, o_land, o_lxor, o_ineg, o_lneg, o_i2l, o_l2i, o_i2f, o_l2d, o_lcmp, o_dcmp, o_fcmp, o_ldiv, o_lrem, o_fdiv, o_ddiv, o_f2d, o_c, o_iload, o_lload, o_fload, o_dload, o_aload, o_istore, o_lstore, o_fstore, o_dstore, o_astore, o_iinc, o_dup, o_pop, o_dupx1, o_dup2, o_dup2l, o_ifeq, o_iceq, o_ifne, o_icne, o_iflt, o_iclt, o_ifge, o_icge, o_ifgt, o_icgt, o_ifle, o_icle, o_at, o_iret, o_lret, o_fret, o_dret, o_zret, o_cret, o_vret, o_aret, o_get, o_put, o_new, o_ald, o_iast, o_last, o_dast, o_aast, o_alen, o_newa, o_cast, o_acmpeq, o_acmpne, o_calls, o_callv, o_calln, o_calli, o_obj, o_throw, o_callh, o_sw, o_acopy, lg, lset1, lset2, lk, aPop, Value.category, List.map_cons, List.map_nil, List.sum_cons, List.sum_nil, Option.toList, List.cons_append, List.nil_append, true_and, and_true, aTFit, if_true, if_false, kV, eq_self, and_self]
  refine aArr.mk hZ (by decide) ⟨by decide, nI_pos (by omega), ?_⟩
  refine aVal.mk (v := (fun k => .int (nI (S k).n)) i) (by rw [nI_clamp (by omega)]; exact v3 (fun k => .int (nI (S k).n)) hi) ?_
  try simp only [o_sfmt, o_sget, o_salen, o_sbald, o_i2c, o_callS, o_iadd, o_isub, o_imul, o_iand, o_ladd, o_lsub, o_lmul, o_land, o_lxor, o_ineg, o_lneg, o_i2l, o_l2i, o_i2f, o_l2d, o_lcmp, o_dcmp, o_fcmp, o_ldiv, o_lrem, o_fdiv, o_ddiv, o_f2d, o_c, o_iload, o_lload, o_fload, o_dload, o_aload, o_istore, o_lstore, o_fstore, o_dstore, o_astore, o_iinc, o_dup, o_pop, o_dupx1, o_dup2, o_dup2l, o_ifeq, o_iceq, o_ifne, o_icne, o_iflt, o_iclt, o_ifge, o_icge, o_ifgt, o_icgt, o_ifle, o_icle, o_at, o_iret, o_lret, o_fret, o_dret, o_zret, o_cret, o_vret, o_aret, o_get, o_put, o_new, o_ald, o_iast, o_last, o_dast, o_aast, o_alen, o_newa, o_cast, o_acmpeq, o_acmpne, o_calls, o_callv, o_calln, o_calli, o_obj, o_throw, o_callh, o_sw, o_acopy, lg, lset1, lset2, lk, aPop, Value.category, List.map_cons, List.map_nil, List.sum_cons, List.sum_nil, Option.toList, List.cons_append, List.nil_append, true_and, and_true, aTFit, if_true, if_false, kV, eq_self, and_self]
  refine aArr.mk hZ (by decide) ⟨rfl, aIn_nI (n := 3) hi (by decide), ?_⟩
  rw [nI_sub1 (by omega), nI_clamp (by omega)]
  suffices H : ∀ (v k : Nat), k + v = (S i).n - 1 → at9 ≤ k → aSo G iX3_takeOut d _ _ _ (fun kc ks L st h1 => L = [some (.ref m), some (.int (nI i)), some (.int (nI at9)), some (.ref ((fx i)[at9])), some (.int (nI k))] ∧ st = [] ∧ (∃ V', h1 (al i) = some (15, V') ∧ V'.length = 9 ∧ ∀ p, p < (S i).n → (at9 ≤ p ∧ p < k → V'[p]? = V[p + 1]?) ∧ (¬ (at9 ≤ p ∧ p < k) → V'[p]? = V[p]?)) ∧ h1 Z = some (10, (iL fun k => (S k).n).set i (.int (nI ((S i).n - 1)))) ∧ ∀ q, q ≠ al i → q ≠ Z → h1 q = h q) 22 by
    refine H ((S i).n - 1 - at9) at9 (by omega) (Nat.le_refl _) _ _ _ _ _ ⟨rfl, rfl, ⟨V, (aUp_ne (Ne.symm hZa)).trans hV, hVl, fun p hp => ⟨fun z => by omega, fun _ => rfl⟩⟩, aUp_eq _ _ _, fun q _ z => aUp_ne z⟩
  have hne : ∀ q k v, h q = some (k, v) → k ≠ 15 → q ≠ al i := fun q k v e z => kd_ne e hV z
  have hZr : ((iL fun k => (S k).n).set i (.int (nI ((S i).n - 1))))[i]? = some (.int (nI ((S i).n - 1))) := List.getElem?_set_self (by show i < 3; exact hi)
  intro v
  induction v with
  | zero =>
    rintro k hk hka kc ks L st h1 ⟨rfl, rfl, ⟨V', e1, e2, e3⟩, hz1, hq⟩
    obtain rfl : k = (S i).n - 1 := by omega
    have hm1 := (hq m (hne _ _ _ hm (by decide)) hmZ).trans hm
    refine bX3_takeOut_22 (by omega) _ _ _ _ _ ?_
    try simp only [o_sfmt, o_sget, o_salen, o_sbald, o_i2c, o_callS, o_iadd, o_isub, o_imul, o_iand, o_ladd, o_lsub, o_lmul, o_land, o_lxor, o_ineg, o_lneg, o_i2l, o_l2i, o_i2f, o_l2d, o_lcmp, o_dcmp, o_fcmp, o_ldiv, o_lrem, o_fdiv, o_ddiv, o_f2d, o_c, o_iload, o_lload, o_fload, o_dload, o_aload, o_istore, o_lstore, o_fstore, o_dstore, o_astore, o_iinc, o_dup, o_pop, o_dupx1, o_dup2, o_dup2l, o_ifeq, o_iceq, o_ifne, o_icne, o_iflt, o_iclt, o_ifge, o_icge, o_ifgt, o_icgt, o_ifle, o_icle, o_at, o_iret, o_lret, o_fret, o_dret, o_zret, o_cret, o_vret, o_aret, o_get, o_put, o_new, o_ald, o_iast, o_last, o_dast, o_aast, o_alen, o_newa, o_cast, o_acmpeq, o_acmpne, o_calls, o_callv, o_calln, o_calli, o_obj, o_throw, o_callh, o_sw, o_acopy, lg, lset1, lset2, lk, aPop, Value.category, List.map_cons, List.map_nil, List.sum_cons, List.sum_nil, Option.toList, List.cons_append, List.nil_append, true_and, and_true, aTFit, if_true, if_false, kV, eq_self, and_self]
    refine aObj.mk hm1 (aVal.mk rfl ?_)
    try simp only [o_sfmt, o_sget, o_salen, o_sbald, o_i2c, o_callS, o_iadd, o_isub, o_imul, o_iand, o_ladd, o_lsub, o_lmul, o_land, o_lxor, o_ineg, o_lneg, o_i2l, o_l2i, o_i2f, o_l2d, o_lcmp, o_dcmp, o_fcmp, o_ldiv, o_lrem, o_fdiv, o_ddiv, o_f2d, o_c, o_iload, o_lload, o_fload, o_dload, o_aload, o_istore, o_lstore, o_fstore, o_dstore, o_astore, o_iinc, o_dup, o_pop, o_dupx1, o_dup2, o_dup2l, o_ifeq, o_iceq, o_ifne, o_icne, o_iflt, o_iclt, o_ifge, o_icge, o_ifgt, o_icgt, o_ifle, o_icle, o_at, o_iret, o_lret, o_fret, o_dret, o_zret, o_cret, o_vret, o_aret, o_get, o_put, o_new, o_ald, o_iast, o_last, o_dast, o_aast, o_alen, o_newa, o_cast, o_acmpeq, o_acmpne, o_calls, o_callv, o_calln, o_calli, o_obj, o_throw, o_callh, o_sw, o_acopy, lg, lset1, lset2, lk, aPop, Value.category, List.map_cons, List.map_nil, List.sum_cons, List.sum_nil, Option.toList, List.cons_append, List.nil_append, true_and, and_true, aTFit, if_true, if_false, kV, eq_self, and_self]
    refine aArr.mk hz1 (by decide) ⟨by decide, nI_pos (by omega), ?_⟩
    refine aVal.mk (v := .int (nI ((S i).n - 1))) (by rw [nI_clamp (by omega)]; exact hZr) ?_
    try simp only [o_sfmt, o_sget, o_salen, o_sbald, o_i2c, o_callS, o_iadd, o_isub, o_imul, o_iand, o_ladd, o_lsub, o_lmul, o_land, o_lxor, o_ineg, o_lneg, o_i2l, o_l2i, o_i2f, o_l2d, o_lcmp, o_dcmp, o_fcmp, o_ldiv, o_lrem, o_fdiv, o_ddiv, o_f2d, o_c, o_iload, o_lload, o_fload, o_dload, o_aload, o_istore, o_lstore, o_fstore, o_dstore, o_astore, o_iinc, o_dup, o_pop, o_dupx1, o_dup2, o_dup2l, o_ifeq, o_iceq, o_ifne, o_icne, o_iflt, o_iclt, o_ifge, o_icge, o_ifgt, o_icgt, o_ifle, o_icle, o_at, o_iret, o_lret, o_fret, o_dret, o_zret, o_cret, o_vret, o_aret, o_get, o_put, o_new, o_ald, o_iast, o_last, o_dast, o_aast, o_alen, o_newa, o_cast, o_acmpeq, o_acmpne, o_calls, o_callv, o_calln, o_calli, o_obj, o_throw, o_callh, o_sw, o_acopy, lg, lset1, lset2, lk, aPop, Value.category, List.map_cons, List.map_nil, List.sum_cons, List.sum_nil, Option.toList, List.cons_append, List.nil_append, true_and, and_true, aTFit, if_true, if_false, kV, eq_self, and_self]
    refine ⟨fun _ => ?_, fun c => absurd (nI_le (Nat.le_refl _) (by omega)) c⟩
    refine bX3_takeOut_59 (by omega) _ _ _ _ _ ?_
    try simp only [o_sfmt, o_sget, o_salen, o_sbald, o_i2c, o_callS, o_iadd, o_isub, o_imul, o_iand, o_ladd, o_lsub, o_lmul, o_land, o_lxor, o_ineg, o_lneg, o_i2l, o_l2i, o_i2f, o_l2d, o_lcmp, o_dcmp, o_fcmp, o_ldiv, o_lrem, o_fdiv, o_ddiv, o_f2d, o_c, o_iload, o_lload, o_fload, o_dload, o_aload, o_istore, o_lstore, o_fstore, o_dstore, o_astore, o_iinc, o_dup, o_pop, o_dupx1, o_dup2, o_dup2l, o_ifeq, o_iceq, o_ifne, o_icne, o_iflt, o_iclt, o_ifge, o_icge, o_ifgt, o_icgt, o_ifle, o_icle, o_at, o_iret, o_lret, o_fret, o_dret, o_zret, o_cret, o_vret, o_aret, o_get, o_put, o_new, o_ald, o_iast, o_last, o_dast, o_aast, o_alen, o_newa, o_cast, o_acmpeq, o_acmpne, o_calls, o_callv, o_calln, o_calli, o_obj, o_throw, o_callh, o_sw, o_acopy, lg, lset1, lset2, lk, aPop, Value.category, List.map_cons, List.map_nil, List.sum_cons, List.sum_nil, Option.toList, List.cons_append, List.nil_append, true_and, and_true, aTFit, if_true, if_false, kV, eq_self, and_self]
    have hlenE : ((fx i).eraseIdx at9).length = (S i).n - 1 := by rw [List.length_eraseIdx_of_lt hax, hlen]
    have hget : ∀ p (hp : p < ((fx i).eraseIdx at9).length), (p < at9 ∧ ∃ hp2 : p < (fx i).length, ((fx i).eraseIdx at9)[p] = (fx i)[p]) ∨ (¬ p < at9 ∧ ∃ hp2 : p + 1 < (fx i).length, ((fx i).eraseIdx at9)[p] = (fx i)[p + 1]) := by
      intro p hp
      by_cases c : p < at9
      · exact Or.inl ⟨c, by omega, List.getElem_eraseIdx_of_lt _ c⟩
      · exact Or.inr ⟨c, by omega, List.getElem_eraseIdx_of_ge _ (by omega)⟩
    have hfin : ModA h1 m P W C Z A T al tt (fun j => if j = i then (fx i).eraseIdx at9 else fx j) th (upS S i ((S i).pl, (S i).wy, (S i).cl, (S i).n - 1, erL (S i).ls at9)) := by
      refine hM.putV (V' := V') hi (Or.inl hc0) e1 hz1 hq e2 ?_ hlenE (by omega) (hnd.sublist (List.eraseIdx_sublist _ _)) ?_ ?_ ?_ (fun y hy => hM.xsok hi y ((List.eraseIdx_sublist _ _).subset hy))
      · intro p hp
        obtain ⟨f1, f2⟩ := e3 p (by omega)
        rcases hget p hp with ⟨g1, g2, g3⟩ | ⟨g1, g2, g3⟩
        · rw [g3, f2 (by omega)]
          exact hVx p g2
        · rw [g3, f1 (by omega)]
          exact hVx (p + 1) g2
      · intro p hp
        show _ = some (10, lnM (if p < at9 then (S i).ls p else (S i).ls (p + 1)))
        rcases hget p hp with ⟨g1, g2, g3⟩ | ⟨g1, g2, g3⟩
        · rw [g3, if_pos g1]
          exact hl p g2
        · rw [g3, if_neg g1]
          exact hl (p + 1) g2
      · intro p hp
        show (if p < at9 then (S i).ls p else (S i).ls (p + 1)).ok
        split
        · exact hok p (by omega)
        · exact hok (p + 1) (by omega)
      · intro _ p hp
        show (if p < at9 then (S i).ls p else (S i).ls (p + 1)).t = 0
        split
        · exact hot hc0 p (by omega)
        · exact hot hc0 (p + 1) (by omega)
    have hfr : freeR P W C Z (fun j => if j = i then (fx i).eraseIdx at9 else fx j) ((fx i)[at9]) := by
      refine ⟨d2 i hi _ (List.getElem_mem hax), ?_⟩
      intro j hj z
      by_cases c : j = i
      · simp only [if_pos c] at z
        exact er_not hnd hax z
      · simp only [if_neg c] at z
        exact (d3 j hj i hi c).2.2 _ (List.getElem_mem hax) z
    have hcell : h1 ((fx i)[at9]) = some (10, lnM ((S i).ls at9)) := (hq _ (hne _ _ _ (hl at9 hax) (by decide)) (d2 i hi _ (List.getElem_mem hax)).2.2.2).trans (hl at9 hax)
    have hkm : kMo tt h h1 := fun q k v e z1 z2 z3 z4 => (hq q (hne q k v e z3) (kd_ne e hZ z2)).trans e
    first | exact ⟨hfin, hcell, hfr, hkm⟩ | exact ⟨rfl, hfin, hcell, hfr, hkm⟩
  | succ v ih =>
    rintro k hk hka kc ks L st h1 ⟨rfl, rfl, ⟨V', e1, e2, e3⟩, hz1, hq⟩
    have hm1 := (hq m (hne _ _ _ hm (by decide)) hmZ).trans hm
    have hA1 := (hq A (hne _ _ _ hA (by decide)) hAZ).trans hA
    have hvk : V'[k + 1]? = some (.ref ((fx i)[k + 1]'(by omega))) := by
      rw [(e3 (k + 1) (by omega)).2 (by omega)]
      exact hVx (k + 1) (by omega)
    have hrow := (hq _ (hne _ _ _ (hl (k + 1) (by omega)) (by decide)) (d2 i hi _ (List.getElem_mem _)).2.2.2).trans (hl (k + 1) (by omega))
    refine bX3_takeOut_22 (by omega) _ _ _ _ _ ?_
    try simp only [o_sfmt, o_sget, o_salen, o_sbald, o_i2c, o_callS, o_iadd, o_isub, o_imul, o_iand, o_ladd, o_lsub, o_lmul, o_land, o_lxor, o_ineg, o_lneg, o_i2l, o_l2i, o_i2f, o_l2d, o_lcmp, o_dcmp, o_fcmp, o_ldiv, o_lrem, o_fdiv, o_ddiv, o_f2d, o_c, o_iload, o_lload, o_fload, o_dload, o_aload, o_istore, o_lstore, o_fstore, o_dstore, o_astore, o_iinc, o_dup, o_pop, o_dupx1, o_dup2, o_dup2l, o_ifeq, o_iceq, o_ifne, o_icne, o_iflt, o_iclt, o_ifge, o_icge, o_ifgt, o_icgt, o_ifle, o_icle, o_at, o_iret, o_lret, o_fret, o_dret, o_zret, o_cret, o_vret, o_aret, o_get, o_put, o_new, o_ald, o_iast, o_last, o_dast, o_aast, o_alen, o_newa, o_cast, o_acmpeq, o_acmpne, o_calls, o_callv, o_calln, o_calli, o_obj, o_throw, o_callh, o_sw, o_acopy, lg, lset1, lset2, lk, aPop, Value.category, List.map_cons, List.map_nil, List.sum_cons, List.sum_nil, Option.toList, List.cons_append, List.nil_append, true_and, and_true, aTFit, if_true, if_false, kV, eq_self, and_self]
    refine aObj.mk hm1 (aVal.mk rfl ?_)
    try simp only [o_sfmt, o_sget, o_salen, o_sbald, o_i2c, o_callS, o_iadd, o_isub, o_imul, o_iand, o_ladd, o_lsub, o_lmul, o_land, o_lxor, o_ineg, o_lneg, o_i2l, o_l2i, o_i2f, o_l2d, o_lcmp, o_dcmp, o_fcmp, o_ldiv, o_lrem, o_fdiv, o_ddiv, o_f2d, o_c, o_iload, o_lload, o_fload, o_dload, o_aload, o_istore, o_lstore, o_fstore, o_dstore, o_astore, o_iinc, o_dup, o_pop, o_dupx1, o_dup2, o_dup2l, o_ifeq, o_iceq, o_ifne, o_icne, o_iflt, o_iclt, o_ifge, o_icge, o_ifgt, o_icgt, o_ifle, o_icle, o_at, o_iret, o_lret, o_fret, o_dret, o_zret, o_cret, o_vret, o_aret, o_get, o_put, o_new, o_ald, o_iast, o_last, o_dast, o_aast, o_alen, o_newa, o_cast, o_acmpeq, o_acmpne, o_calls, o_callv, o_calln, o_calli, o_obj, o_throw, o_callh, o_sw, o_acopy, lg, lset1, lset2, lk, aPop, Value.category, List.map_cons, List.map_nil, List.sum_cons, List.sum_nil, Option.toList, List.cons_append, List.nil_append, true_and, and_true, aTFit, if_true, if_false, kV, eq_self, and_self]
    refine aArr.mk hz1 (by decide) ⟨by decide, nI_pos (by omega), ?_⟩
    refine aVal.mk (v := .int (nI ((S i).n - 1))) (by rw [nI_clamp (by omega)]; exact hZr) ?_
    try simp only [o_sfmt, o_sget, o_salen, o_sbald, o_i2c, o_callS, o_iadd, o_isub, o_imul, o_iand, o_ladd, o_lsub, o_lmul, o_land, o_lxor, o_ineg, o_lneg, o_i2l, o_l2i, o_i2f, o_l2d, o_lcmp, o_dcmp, o_fcmp, o_ldiv, o_lrem, o_fdiv, o_ddiv, o_f2d, o_c, o_iload, o_lload, o_fload, o_dload, o_aload, o_istore, o_lstore, o_fstore, o_dstore, o_astore, o_iinc, o_dup, o_pop, o_dupx1, o_dup2, o_dup2l, o_ifeq, o_iceq, o_ifne, o_icne, o_iflt, o_iclt, o_ifge, o_icge, o_ifgt, o_icgt, o_ifle, o_icle, o_at, o_iret, o_lret, o_fret, o_dret, o_zret, o_cret, o_vret, o_aret, o_get, o_put, o_new, o_ald, o_iast, o_last, o_dast, o_aast, o_alen, o_newa, o_cast, o_acmpeq, o_acmpne, o_calls, o_callv, o_calln, o_calli, o_obj, o_throw, o_callh, o_sw, o_acopy, lg, lset1, lset2, lk, aPop, Value.category, List.map_cons, List.map_nil, List.sum_cons, List.sum_nil, Option.toList, List.cons_append, List.nil_append, true_and, and_true, aTFit, if_true, if_false, kV, eq_self, and_self]
    refine ⟨fun c => absurd c (nI_ge (by omega) (by omega)), fun _ => ?_⟩
    refine aObj.mk hm1 (aVal.mk rfl ?_)
    try simp only [o_sfmt, o_sget, o_salen, o_sbald, o_i2c, o_callS, o_iadd, o_isub, o_imul, o_iand, o_ladd, o_lsub, o_lmul, o_land, o_lxor, o_ineg, o_lneg, o_i2l, o_l2i, o_i2f, o_l2d, o_lcmp, o_dcmp, o_fcmp, o_ldiv, o_lrem, o_fdiv, o_ddiv, o_f2d, o_c, o_iload, o_lload, o_fload, o_dload, o_aload, o_istore, o_lstore, o_fstore, o_dstore, o_astore, o_iinc, o_dup, o_pop, o_dupx1, o_dup2, o_dup2l, o_ifeq, o_iceq, o_ifne, o_icne, o_iflt, o_iclt, o_ifge, o_icge, o_ifgt, o_icgt, o_ifle, o_icle, o_at, o_iret, o_lret, o_fret, o_dret, o_zret, o_cret, o_vret, o_aret, o_get, o_put, o_new, o_ald, o_iast, o_last, o_dast, o_aast, o_alen, o_newa, o_cast, o_acmpeq, o_acmpne, o_calls, o_callv, o_calln, o_calli, o_obj, o_throw, o_callh, o_sw, o_acopy, lg, lset1, lset2, lk, aPop, Value.category, List.map_cons, List.map_nil, List.sum_cons, List.sum_nil, Option.toList, List.cons_append, List.nil_append, true_and, and_true, aTFit, if_true, if_false, kV, eq_self, and_self]
    refine aArr.mk hA1 (by decide) ⟨by decide, nI_pos (by omega), ?_⟩
    refine aVal.mk (v := .ref (al i)) (by rw [nI_clamp (by omega)]; exact v3 (fun k => .ref (al k)) hi) ?_
    try simp only [o_sfmt, o_sget, o_salen, o_sbald, o_i2c, o_callS, o_iadd, o_isub, o_imul, o_iand, o_ladd, o_lsub, o_lmul, o_land, o_lxor, o_ineg, o_lneg, o_i2l, o_l2i, o_i2f, o_l2d, o_lcmp, o_dcmp, o_fcmp, o_ldiv, o_lrem, o_fdiv, o_ddiv, o_f2d, o_c, o_iload, o_lload, o_fload, o_dload, o_aload, o_istore, o_lstore, o_fstore, o_dstore, o_astore, o_iinc, o_dup, o_pop, o_dupx1, o_dup2, o_dup2l, o_ifeq, o_iceq, o_ifne, o_icne, o_iflt, o_iclt, o_ifge, o_icge, o_ifgt, o_icgt, o_ifle, o_icle, o_at, o_iret, o_lret, o_fret, o_dret, o_zret, o_cret, o_vret, o_aret, o_get, o_put, o_new, o_ald, o_iast, o_last, o_dast, o_aast, o_alen, o_newa, o_cast, o_acmpeq, o_acmpne, o_calls, o_callv, o_calln, o_calli, o_obj, o_throw, o_callh, o_sw, o_acopy, lg, lset1, lset2, lk, aPop, Value.category, List.map_cons, List.map_nil, List.sum_cons, List.sum_nil, Option.toList, List.cons_append, List.nil_append, true_and, and_true, aTFit, if_true, if_false, kV, eq_self, and_self]
    refine aObj.mk hm1 (aVal.mk rfl ?_)
    try simp only [o_sfmt, o_sget, o_salen, o_sbald, o_i2c, o_callS, o_iadd, o_isub, o_imul, o_iand, o_ladd, o_lsub, o_lmul, o_land, o_lxor, o_ineg, o_lneg, o_i2l, o_l2i, o_i2f, o_l2d, o_lcmp, o_dcmp, o_fcmp, o_ldiv, o_lrem, o_fdiv, o_ddiv, o_f2d, o_c, o_iload, o_lload, o_fload, o_dload, o_aload, o_istore, o_lstore, o_fstore, o_dstore, o_astore, o_iinc, o_dup, o_pop, o_dupx1, o_dup2, o_dup2l, o_ifeq, o_iceq, o_ifne, o_icne, o_iflt, o_iclt, o_ifge, o_icge, o_ifgt, o_icgt, o_ifle, o_icle, o_at, o_iret, o_lret, o_fret, o_dret, o_zret, o_cret, o_vret, o_aret, o_get, o_put, o_new, o_ald, o_iast, o_last, o_dast, o_aast, o_alen, o_newa, o_cast, o_acmpeq, o_acmpne, o_calls, o_callv, o_calln, o_calli, o_obj, o_throw, o_callh, o_sw, o_acopy, lg, lset1, lset2, lk, aPop, Value.category, List.map_cons, List.map_nil, List.sum_cons, List.sum_nil, Option.toList, List.cons_append, List.nil_append, true_and, and_true, aTFit, if_true, if_false, kV, eq_self, and_self]
    refine aArr.mk hA1 (by decide) ⟨by decide, nI_pos (by omega), ?_⟩
    refine aVal.mk (v := .ref (al i)) (by rw [nI_clamp (by omega)]; exact v3 (fun k => .ref (al k)) hi) ?_
    try simp only [o_sfmt, o_sget, o_salen, o_sbald, o_i2c, o_callS, o_iadd, o_isub, o_imul, o_iand, o_ladd, o_lsub, o_lmul, o_land, o_lxor, o_ineg, o_lneg, o_i2l, o_l2i, o_i2f, o_l2d, o_lcmp, o_dcmp, o_fcmp, o_ldiv, o_lrem, o_fdiv, o_ddiv, o_f2d, o_c, o_iload, o_lload, o_fload, o_dload, o_aload, o_istore, o_lstore, o_fstore, o_dstore, o_astore, o_iinc, o_dup, o_pop, o_dupx1, o_dup2, o_dup2l, o_ifeq, o_iceq, o_ifne, o_icne, o_iflt, o_iclt, o_ifge, o_icge, o_ifgt, o_icgt, o_ifle, o_icle, o_at, o_iret, o_lret, o_fret, o_dret, o_zret, o_cret, o_vret, o_aret, o_get, o_put, o_new, o_ald, o_iast, o_last, o_dast, o_aast, o_alen, o_newa, o_cast, o_acmpeq, o_acmpne, o_calls, o_callv, o_calln, o_calli, o_obj, o_throw, o_callh, o_sw, o_acopy, lg, lset1, lset2, lk, aPop, Value.category, List.map_cons, List.map_nil, List.sum_cons, List.sum_nil, Option.toList, List.cons_append, List.nil_append, true_and, and_true, aTFit, if_true, if_false, kV, eq_self, and_self]
    rw [nI_1]
    refine aArr.mk e1 (by decide) ⟨by decide, nI_pos (by omega), ?_⟩
    refine aVal.mk (v := .ref ((fx i)[k + 1]'(by omega))) (by rw [nI_clamp (by omega)]; exact hvk) ?_
    try simp only [o_sfmt, o_sget, o_salen, o_sbald, o_i2c, o_callS, o_iadd, o_isub, o_imul, o_iand, o_ladd, o_lsub, o_lmul, o_land, o_lxor, o_ineg, o_lneg, o_i2l, o_l2i, o_i2f, o_l2d, o_lcmp, o_dcmp, o_fcmp, o_ldiv, o_lrem, o_fdiv, o_ddiv, o_f2d, o_c, o_iload, o_lload, o_fload, o_dload, o_aload, o_istore, o_lstore, o_fstore, o_dstore, o_astore, o_iinc, o_dup, o_pop, o_dupx1, o_dup2, o_dup2l, o_ifeq, o_iceq, o_ifne, o_icne, o_iflt, o_iclt, o_ifge, o_icge, o_ifgt, o_icgt, o_ifle, o_icle, o_at, o_iret, o_lret, o_fret, o_dret, o_zret, o_cret, o_vret, o_aret, o_get, o_put, o_new, o_ald, o_iast, o_last, o_dast, o_aast, o_alen, o_newa, o_cast, o_acmpeq, o_acmpne, o_calls, o_callv, o_calln, o_calli, o_obj, o_throw, o_callh, o_sw, o_acopy, lg, lset1, lset2, lk, aPop, Value.category, List.map_cons, List.map_nil, List.sum_cons, List.sum_nil, Option.toList, List.cons_append, List.nil_append, true_and, and_true, aTFit, if_true, if_false, kV, eq_self, and_self]
    refine aArr.mk e1 (by decide) ⟨aKind.mk hrow (by decide), aIn_nI (by omega) (by omega), ?_⟩
    rw [nI_clamp (by omega)]
    refine ih (k + 1) (by omega) (by omega) _ _ _ _ _ ⟨rfl, rfl, ⟨_, aUp_eq _ _ _, by rw [List.length_set]; exact e2, fun p hp => ?_⟩, (aUp_ne hZa).trans hz1, fun q z z2 => (aUp_ne z).trans (hq q z z2)⟩
    obtain ⟨f1, f2⟩ := e3 p hp
    by_cases c : p = k
    · subst c
      refine ⟨fun _ => ?_, fun z => absurd ⟨hka, Nat.lt_succ_self _⟩ z⟩
      rw [List.getElem?_set_self (by omega), hVx (p + 1) (by omega)]
    · rw [List.getElem?_set_ne (by omega)]
      exact ⟨fun z => f1 (by omega), fun z => f2 (by omega)⟩
end MRows
