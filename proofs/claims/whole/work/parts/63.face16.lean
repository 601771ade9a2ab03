/-! copy, correct, split -/
section Face16
variable {G : gG} {d : Nat}
/-- a second bill, in range or not -/
def spN (S : Nat → sB) (bill : Int32) (f : Nat → sB → aR × (Nat → sB)) : aR × (Nat → sB) := spM S bill f
def sp_copy (S : Nat → sB) (bill to : Int32) : aR × (Nat → sB) := spM S bill fun i C => spM S to fun j B => if B.cl = 0 then (if bill = to then (aInt B.n, S) else (aInt C.n, upS S j (C.pl, C.wy, B.cl, C.n, fun k => setT (C.ls k) 0))) else (.inr eIS, S)
theorem f_copy (hst : (gl G).stackTraces = false) (hd : 19 ≤ d) (h : aH) {x : Nat} {S : Nat → sB} (hC : Cls G h x S) (bill to : Int32) : CT G iX2_copy d 21 171 [.ref x, .int bill, .int to] h (kM G x h (sp_copy S bill to).1 (sp_copy S bill to).2) := by
  obtain ⟨q, fb, fa, fe, fx, hA⟩ := id hC
  obtain ⟨hx, hq, hb, hD⟩ := id hA
  unfold sp_copy
  refine ct_of (L := [some (.ref x), some (.int bill), some (.int to), none, none]) (plainFor_of_name (by decide +kernel)) rfl hst rfl rfl (Nat.le_of_ble_eq_true rfl) ?_
  refine bX2_copy_0 (by omega) _ _ _ _ _ ?_
  try simp only [o_iadd, o_isub, o_imul, o_iand, o_ladd, o_lsub, o_lmul, o_land, o_lxor, o_ineg, o_lneg, o_i2l, o_l2i, o_i2f, o_l2d, o_lcmp, o_dcmp, o_fcmp, o_ldiv, o_lrem, o_fdiv, o_ddiv, o_f2d, o_c, o_iload, o_lload, o_fload, o_dload, o_aload, o_istore, o_lstore, o_fstore, o_dstore, o_astore, o_iinc, o_dup, o_pop, o_dupx1, o_dup2, o_dup2l, o_ifeq, o_iceq, o_ifne, o_icne, o_iflt, o_iclt, o_ifge, o_icge, o_ifgt, o_icgt, o_ifle, o_icle, o_at, o_iret, o_lret, o_fret, o_dret, o_zret, o_cret, o_vret, o_aret, o_get, o_put, o_new, o_ald, o_iast, o_last, o_dast, o_aast, o_alen, o_newa, o_cast, o_acmpeq, o_acmpne, o_calls, o_callv, o_calln, o_calli, o_obj, o_throw, o_callh, o_sw, o_acopy, lg, lset1, lset2, lk, aPop, Value.category, List.map_cons, List.map_nil, List.sum_cons, List.sum_nil, Option.toList, List.cons_append, List.nil_append, true_and, and_true, aTFit, if_true, if_false, kV, eq_self, and_self]
  refine ⟨Nat.le_of_ble_eq_true rfl, aKind.mk hx rfl, aCt.mk (c_billAt hst (by omega) h x q _ _ _ bill hx hq) (by decide) (by decide) ?_⟩
  rintro r h1 ⟨⟨i, b, hi, rfl, hbi, rfl⟩ | ⟨hn, rfl⟩, hh⟩
  rotate_left
  · obtain rfl := hh.symm
    rw [spM_no hn]
    exact ⟨rfl, hC, kC2.refl h⟩
  obtain rfl := hh.symm
  obtain rfl := three hi hbi
  obtain ⟨hB, hlen⟩ := hb i hi
  obtain ⟨hb9, hal, hl, hnd, hpl, hwy, hcl, hok⟩ := id hB
  have hn9 := hal.1
  rw [spM_ok hi]
  try simp only [o_iadd, o_isub, o_imul, o_iand, o_ladd, o_lsub, o_lmul, o_land, o_lxor, o_ineg, o_lneg, o_i2l, o_l2i, o_i2f, o_l2d, o_lcmp, o_dcmp, o_fcmp, o_ldiv, o_lrem, o_fdiv, o_ddiv, o_f2d, o_c, o_iload, o_lload, o_fload, o_dload, o_aload, o_istore, o_lstore, o_fstore, o_dstore, o_astore, o_iinc, o_dup, o_pop, o_dupx1, o_dup2, o_dup2l, o_ifeq, o_iceq, o_ifne, o_icne, o_iflt, o_iclt, o_ifge, o_icge, o_ifgt, o_icgt, o_ifle, o_icle, o_at, o_iret, o_lret, o_fret, o_dret, o_zret, o_cret, o_vret, o_aret, o_get, o_put, o_new, o_ald, o_iast, o_last, o_dast, o_aast, o_alen, o_newa, o_cast, o_acmpeq, o_acmpne, o_calls, o_callv, o_calln, o_calli, o_obj, o_throw, o_callh, o_sw, o_acopy, lg, lset1, lset2, lk, aPop, Value.category, List.map_cons, List.map_nil, List.sum_cons, List.sum_nil, Option.toList, List.cons_append, List.nil_append, true_and, and_true, aTFit, if_true, if_false, kV, eq_self, and_self]
  refine bX2_copy_5 (by omega) _ _ _ _ _ ?_
  try simp only [o_iadd, o_isub, o_imul, o_iand, o_ladd, o_lsub, o_lmul, o_land, o_lxor, o_ineg, o_lneg, o_i2l, o_l2i, o_i2f, o_l2d, o_lcmp, o_dcmp, o_fcmp, o_ldiv, o_lrem, o_fdiv, o_ddiv, o_f2d, o_c, o_iload, o_lload, o_fload, o_dload, o_aload, o_istore, o_lstore, o_fstore, o_dstore, o_astore, o_iinc, o_dup, o_pop, o_dupx1, o_dup2, o_dup2l, o_ifeq, o_iceq, o_ifne, o_icne, o_iflt, o_iclt, o_ifge, o_icge, o_ifgt, o_icgt, o_ifle, o_icle, o_at, o_iret, o_lret, o_fret, o_dret, o_zret, o_cret, o_vret, o_aret, o_get, o_put, o_new, o_ald, o_iast, o_last, o_dast, o_aast, o_alen, o_newa, o_cast, o_acmpeq, o_acmpne, o_calls, o_callv, o_calln, o_calli, o_obj, o_throw, o_callh, o_sw, o_acopy, lg, lset1, lset2, lk, aPop, Value.category, List.map_cons, List.map_nil, List.sum_cons, List.sum_nil, Option.toList, List.cons_append, List.nil_append, true_and, and_true, aTFit, if_true, if_false, kV, eq_self, and_self]
  refine ⟨Nat.le_of_ble_eq_true rfl, aKind.mk hx rfl, aCt.mk (c_billAt hst (by omega) h x q _ _ _ to hx hq) (by decide) (by decide) ?_⟩
  rintro r h1 ⟨⟨j, b, hj, rfl, hbj, rfl⟩ | ⟨hn, rfl⟩, hh⟩
  rotate_left
  · obtain rfl := hh.symm
    rw [spM_no hn]
    exact ⟨rfl, hC, kC2.refl h⟩
  obtain rfl := hh.symm
  obtain rfl := three hj hbj
  obtain ⟨hB2, hlen2⟩ := hb j hj
  obtain ⟨hb92, hal2, -⟩ := id hB2
  rw [spM_ok hj]
  try simp only [o_iadd, o_isub, o_imul, o_iand, o_ladd, o_lsub, o_lmul, o_land, o_lxor, o_ineg, o_lneg, o_i2l, o_l2i, o_i2f, o_l2d, o_lcmp, o_dcmp, o_fcmp, o_ldiv, o_lrem, o_fdiv, o_ddiv, o_f2d, o_c, o_iload, o_lload, o_fload, o_dload, o_aload, o_istore, o_lstore, o_fstore, o_dstore, o_astore, o_iinc, o_dup, o_pop, o_dupx1, o_dup2, o_dup2l, o_ifeq, o_iceq, o_ifne, o_icne, o_iflt, o_iclt, o_ifge, o_icge, o_ifgt, o_icgt, o_ifle, o_icle, o_at, o_iret, o_lret, o_fret, o_dret, o_zret, o_cret, o_vret, o_aret, o_get, o_put, o_new, o_ald, o_iast, o_last, o_dast, o_aast, o_alen, o_newa, o_cast, o_acmpeq, o_acmpne, o_calls, o_callv, o_calln, o_calli, o_obj, o_throw, o_callh, o_sw, o_acopy, lg, lset1, lset2, lk, aPop, Value.category, List.map_cons, List.map_nil, List.sum_cons, List.sum_nil, Option.toList, List.cons_append, List.nil_append, true_and, and_true, aTFit, if_true, if_false, kV, eq_self, and_self]
  refine bX2_copy_11 (by omega) _ _ _ _ _ ?_
  try simp only [o_iadd, o_isub, o_imul, o_iand, o_ladd, o_lsub, o_lmul, o_land, o_lxor, o_ineg, o_lneg, o_i2l, o_l2i, o_i2f, o_l2d, o_lcmp, o_dcmp, o_fcmp, o_ldiv, o_lrem, o_fdiv, o_ddiv, o_f2d, o_c, o_iload, o_lload, o_fload, o_dload, o_aload, o_istore, o_lstore, o_fstore, o_dstore, o_astore, o_iinc, o_dup, o_pop, o_dupx1, o_dup2, o_dup2l, o_ifeq, o_iceq, o_ifne, o_icne, o_iflt, o_iclt, o_ifge, o_icge, o_ifgt, o_icgt, o_ifle, o_icle, o_at, o_iret, o_lret, o_fret, o_dret, o_zret, o_cret, o_vret, o_aret, o_get, o_put, o_new, o_ald, o_iast, o_last, o_dast, o_aast, o_alen, o_newa, o_cast, o_acmpeq, o_acmpne, o_calls, o_callv, o_calln, o_calli, o_obj, o_throw, o_callh, o_sw, o_acopy, lg, lset1, lset2, lk, aPop, Value.category, List.map_cons, List.map_nil, List.sum_cons, List.sum_nil, Option.toList, List.cons_append, List.nil_append, true_and, and_true, aTFit, if_true, if_false, kV, eq_self, and_self]
  refine ⟨Nat.le_of_ble_eq_true rfl, aCt.mk (c_checkOpen hst (by omega) h hB2) (by decide) (by decide) ?_⟩
  rintro r h1 ⟨⟨c3, rfl⟩ | ⟨c3, rfl⟩, hh⟩
  rotate_left
  · obtain rfl := hh.symm
    rw [if_neg c3]
    exact ⟨rfl, hC, kC2.refl h⟩
  obtain rfl := hh.symm
  rw [if_pos c3]
  try simp only [o_iadd, o_isub, o_imul, o_iand, o_ladd, o_lsub, o_lmul, o_land, o_lxor, o_ineg, o_lneg, o_i2l, o_l2i, o_i2f, o_l2d, o_lcmp, o_dcmp, o_fcmp, o_ldiv, o_lrem, o_fdiv, o_ddiv, o_f2d, o_c, o_iload, o_lload, o_fload, o_dload, o_aload, o_istore, o_lstore, o_fstore, o_dstore, o_astore, o_iinc, o_dup, o_pop, o_dupx1, o_dup2, o_dup2l, o_ifeq, o_iceq, o_ifne, o_icne, o_iflt, o_iclt, o_ifge, o_icge, o_ifgt, o_icgt, o_ifle, o_icle, o_at, o_iret, o_lret, o_fret, o_dret, o_zret, o_cret, o_vret, o_aret, o_get, o_put, o_new, o_ald, o_iast, o_last, o_dast, o_aast, o_alen, o_newa, o_cast, o_acmpeq, o_acmpne, o_calls, o_callv, o_calln, o_calli, o_obj, o_throw, o_callh, o_sw, o_acopy, lg, lset1, lset2, lk, aPop, Value.category, List.map_cons, List.map_nil, List.sum_cons, List.sum_nil, Option.toList, List.cons_append, List.nil_append, true_and, and_true, aTFit, if_true, if_false, kV, eq_self, and_self]
  refine bX2_copy_18 (by omega) _ _ _ _ _ ?_
  try simp only [o_iadd, o_isub, o_imul, o_iand, o_ladd, o_lsub, o_lmul, o_land, o_lxor, o_ineg, o_lneg, o_i2l, o_l2i, o_i2f, o_l2d, o_lcmp, o_dcmp, o_fcmp, o_ldiv, o_lrem, o_fdiv, o_ddiv, o_f2d, o_c, o_iload, o_lload, o_fload, o_dload, o_aload, o_istore, o_lstore, o_fstore, o_dstore, o_astore, o_iinc, o_dup, o_pop, o_dupx1, o_dup2, o_dup2l, o_ifeq, o_iceq, o_ifne, o_icne, o_iflt, o_iclt, o_ifge, o_icge, o_ifgt, o_icgt, o_ifle, o_icle, o_at, o_iret, o_lret, o_fret, o_dret, o_zret, o_cret, o_vret, o_aret, o_get, o_put, o_new, o_ald, o_iast, o_last, o_dast, o_aast, o_alen, o_newa, o_cast, o_acmpeq, o_acmpne, o_calls, o_callv, o_calln, o_calli, o_obj, o_throw, o_callh, o_sw, o_acopy, lg, lset1, lset2, lk, aPop, Value.category, List.map_cons, List.map_nil, List.sum_cons, List.sum_nil, Option.toList, List.cons_append, List.nil_append, true_and, and_true, aTFit, if_true, if_false, kV, eq_self, and_self]
  have heq : nI i = nI j ↔ i = j := nI_eq (by omega) (by omega)
  refine ⟨fun c => ?_, fun c => ?_⟩
  · rw [if_pos c]
    obtain ⟨-, ⟨m, ha⟩, -⟩ := id hal2
    refine bX2_copy_29 (by omega) _ _ _ _ _ ?_
    try simp only [o_iadd, o_isub, o_imul, o_iand, o_ladd, o_lsub, o_lmul, o_land, o_lxor, o_ineg, o_lneg, o_i2l, o_l2i, o_i2f, o_l2d, o_lcmp, o_dcmp, o_fcmp, o_ldiv, o_lrem, o_fdiv, o_ddiv, o_f2d, o_c, o_iload, o_lload, o_fload, o_dload, o_aload, o_istore, o_lstore, o_fstore, o_dstore, o_astore, o_iinc, o_dup, o_pop, o_dupx1, o_dup2, o_dup2l, o_ifeq, o_iceq, o_ifne, o_icne, o_iflt, o_iclt, o_ifge, o_icge, o_ifgt, o_icgt, o_ifle, o_icle, o_at, o_iret, o_lret, o_fret, o_dret, o_zret, o_cret, o_vret, o_aret, o_get, o_put, o_new, o_ald, o_iast, o_last, o_dast, o_aast, o_alen, o_newa, o_cast, o_acmpeq, o_acmpne, o_calls, o_callv, o_calln, o_calli, o_obj, o_throw, o_callh, o_sw, o_acopy, lg, lset1, lset2, lk, aPop, Value.category, List.map_cons, List.map_nil, List.sum_cons, List.sum_nil, Option.toList, List.cons_append, List.nil_append, true_and, and_true, aTFit, if_true, if_false, kV, eq_self, and_self]
    refine aObj.mk hb92 (aVal.mk rfl ⟨Nat.le_of_ble_eq_true rfl, aKind.mk ha rfl, aCt.mk (c_alsize hst (by omega) h _ _ m _ ha) (Nat.zero_le _) (Nat.zero_le _) ?_⟩)
    rintro r h1 ⟨rfl, hh⟩
    obtain rfl := hh.symm
    try simp only [o_iadd, o_isub, o_imul, o_iand, o_ladd, o_lsub, o_lmul, o_land, o_lxor, o_ineg, o_lneg, o_i2l, o_l2i, o_i2f, o_l2d, o_lcmp, o_dcmp, o_fcmp, o_ldiv, o_lrem, o_fdiv, o_ddiv, o_f2d, o_c, o_iload, o_lload, o_fload, o_dload, o_aload, o_istore, o_lstore, o_fstore, o_dstore, o_astore, o_iinc, o_dup, o_pop, o_dupx1, o_dup2, o_dup2l, o_ifeq, o_iceq, o_ifne, o_icne, o_iflt, o_iclt, o_ifge, o_icge, o_ifgt, o_icgt, o_ifle, o_icle, o_at, o_iret, o_lret, o_fret, o_dret, o_zret, o_cret, o_vret, o_aret, o_get, o_put, o_new, o_ald, o_iast, o_last, o_dast, o_aast, o_alen, o_newa, o_cast, o_acmpeq, o_acmpne, o_calls, o_callv, o_calln, o_calli, o_obj, o_throw, o_callh, o_sw, o_acopy, lg, lset1, lset2, lk, aPop, Value.category, List.map_cons, List.map_nil, List.sum_cons, List.sum_nil, Option.toList, List.cons_append, List.nil_append, true_and, and_true, aTFit, if_true, if_false, kV, eq_self, and_self]
    refine bX2_copy_37 (by omega) _ _ _ _ _ ?_
    try simp only [o_iadd, o_isub, o_imul, o_iand, o_ladd, o_lsub, o_lmul, o_land, o_lxor, o_ineg, o_lneg, o_i2l, o_l2i, o_i2f, o_l2d, o_lcmp, o_dcmp, o_fcmp, o_ldiv, o_lrem, o_fdiv, o_ddiv, o_f2d, o_c, o_iload, o_lload, o_fload, o_dload, o_aload, o_istore, o_lstore, o_fstore, o_dstore, o_astore, o_iinc, o_dup, o_pop, o_dupx1, o_dup2, o_dup2l, o_ifeq, o_iceq, o_ifne, o_icne, o_iflt, o_iclt, o_ifge, o_icge, o_ifgt, o_icgt, o_ifle, o_icle, o_at, o_iret, o_lret, o_fret, o_dret, o_zret, o_cret, o_vret, o_aret, o_get, o_put, o_new, o_ald, o_iast, o_last, o_dast, o_aast, o_alen, o_newa, o_cast, o_acmpeq, o_acmpne, o_calls, o_callv, o_calln, o_calli, o_obj, o_throw, o_callh, o_sw, o_acopy, lg, lset1, lset2, lk, aPop, Value.category, List.map_cons, List.map_nil, List.sum_cons, List.sum_nil, Option.toList, List.cons_append, List.nil_append, true_and, and_true, aTFit, if_true, if_false, kV, eq_self, and_self]
    rw [hlen2]
    exact ⟨rfl, hC, kC2.refl h⟩
  · rw [if_neg c]
    have hji : j ≠ i := fun z => c (heq.mpr z.symm)
    refine ⟨Nat.le_of_ble_eq_true rfl, aKind.mk hb92 rfl, aCt.mk (c_takeOver hst (by omega) h hB2 hB (hD j hj i hi hji)) (by decide) (by decide) ?_⟩
    rintro r h1 ⟨e', ys, rfl, hB3, hlen3, he, hys, hF⟩
    obtain ⟨-, ⟨m, ha⟩, -⟩ := id hB3.2.1
    try simp only [o_iadd, o_isub, o_imul, o_iand, o_ladd, o_lsub, o_lmul, o_land, o_lxor, o_ineg, o_lneg, o_i2l, o_l2i, o_i2f, o_l2d, o_lcmp, o_dcmp, o_fcmp, o_ldiv, o_lrem, o_fdiv, o_ddiv, o_f2d, o_c, o_iload, o_lload, o_fload, o_dload, o_aload, o_istore, o_lstore, o_fstore, o_dstore, o_astore, o_iinc, o_dup, o_pop, o_dupx1, o_dup2, o_dup2l, o_ifeq, o_iceq, o_ifne, o_icne, o_iflt, o_iclt, o_ifge, o_icge, o_ifgt, o_icgt, o_ifle, o_icle, o_at, o_iret, o_lret, o_fret, o_dret, o_zret, o_cret, o_vret, o_aret, o_get, o_put, o_new, o_ald, o_iast, o_last, o_dast, o_aast, o_alen, o_newa, o_cast, o_acmpeq, o_acmpne, o_calls, o_callv, o_calln, o_calli, o_obj, o_throw, o_callh, o_sw, o_acopy, lg, lset1, lset2, lk, aPop, Value.category, List.map_cons, List.map_nil, List.sum_cons, List.sum_nil, Option.toList, List.cons_append, List.nil_append, true_and, and_true, aTFit, if_true, if_false, kV, eq_self, and_self]
    refine bX2_copy_29 (by omega) _ _ _ _ _ ?_
    try simp only [o_iadd, o_isub, o_imul, o_iand, o_ladd, o_lsub, o_lmul, o_land, o_lxor, o_ineg, o_lneg, o_i2l, o_l2i, o_i2f, o_l2d, o_lcmp, o_dcmp, o_fcmp, o_ldiv, o_lrem, o_fdiv, o_ddiv, o_f2d, o_c, o_iload, o_lload, o_fload, o_dload, o_aload, o_istore, o_lstore, o_fstore, o_dstore, o_astore, o_iinc, o_dup, o_pop, o_dupx1, o_dup2, o_dup2l, o_ifeq, o_iceq, o_ifne, o_icne, o_iflt, o_iclt, o_ifge, o_icge, o_ifgt, o_icgt, o_ifle, o_icle, o_at, o_iret, o_lret, o_fret, o_dret, o_zret, o_cret, o_vret, o_aret, o_get, o_put, o_new, o_ald, o_iast, o_last, o_dast, o_aast, o_alen, o_newa, o_cast, o_acmpeq, o_acmpne, o_calls, o_callv, o_calln, o_calli, o_obj, o_throw, o_callh, o_sw, o_acopy, lg, lset1, lset2, lk, aPop, Value.category, List.map_cons, List.map_nil, List.sum_cons, List.sum_nil, Option.toList, List.cons_append, List.nil_append, true_and, and_true, aTFit, if_true, if_false, kV, eq_self, and_self]
    refine aObj.mk hB3.1 (aVal.mk rfl ⟨Nat.le_of_ble_eq_true rfl, aKind.mk ha rfl, aCt.mk (c_alsize hst (by omega) h1 _ _ m _ ha) (Nat.zero_le _) (Nat.zero_le _) ?_⟩)
    rintro r h2 ⟨rfl, hh⟩
    obtain rfl := hh.symm
    try simp only [o_iadd, o_isub, o_imul, o_iand, o_ladd, o_lsub, o_lmul, o_land, o_lxor, o_ineg, o_lneg, o_i2l, o_l2i, o_i2f, o_l2d, o_lcmp, o_dcmp, o_fcmp, o_ldiv, o_lrem, o_fdiv, o_ddiv, o_f2d, o_c, o_iload, o_lload, o_fload, o_dload, o_aload, o_istore, o_lstore, o_fstore, o_dstore, o_astore, o_iinc, o_dup, o_pop, o_dupx1, o_dup2, o_dup2l, o_ifeq, o_iceq, o_ifne, o_icne, o_iflt, o_iclt, o_ifge, o_icge, o_ifgt, o_icgt, o_ifle, o_icle, o_at, o_iret, o_lret, o_fret, o_dret, o_zret, o_cret, o_vret, o_aret, o_get, o_put, o_new, o_ald, o_iast, o_last, o_dast, o_aast, o_alen, o_newa, o_cast, o_acmpeq, o_acmpne, o_calls, o_callv, o_calln, o_calli, o_obj, o_throw, o_callh, o_sw, o_acopy, lg, lset1, lset2, lk, aPop, Value.category, List.map_cons, List.map_nil, List.sum_cons, List.sum_nil, Option.toList, List.cons_append, List.nil_append, true_and, and_true, aTFit, if_true, if_false, kV, eq_self, and_self]
    refine bX2_copy_37 (by omega) _ _ _ _ _ ?_
    try simp only [o_iadd, o_isub, o_imul, o_iand, o_ladd, o_lsub, o_lmul, o_land, o_lxor, o_ineg, o_lneg, o_i2l, o_l2i, o_i2f, o_l2d, o_lcmp, o_dcmp, o_fcmp, o_ldiv, o_lrem, o_fdiv, o_ddiv, o_f2d, o_c, o_iload, o_lload, o_fload, o_dload, o_aload, o_istore, o_lstore, o_fstore, o_dstore, o_astore, o_iinc, o_dup, o_pop, o_dupx1, o_dup2, o_dup2l, o_ifeq, o_iceq, o_ifne, o_icne, o_iflt, o_iclt, o_ifge, o_icge, o_ifgt, o_icgt, o_ifle, o_icle, o_at, o_iret, o_lret, o_fret, o_dret, o_zret, o_cret, o_vret, o_aret, o_get, o_put, o_new, o_ald, o_iast, o_last, o_dast, o_aast, o_alen, o_newa, o_cast, o_acmpeq, o_acmpne, o_calls, o_callv, o_calln, o_calli, o_obj, o_throw, o_callh, o_sw, o_acopy, lg, lset1, lset2, lk, aPop, Value.category, List.map_cons, List.map_nil, List.sum_cons, List.sum_nil, Option.toList, List.cons_append, List.nil_append, true_and, and_true, aTFit, if_true, if_false, kV, eq_self, and_self]
    rw [hlen3, hlen]
    exact ⟨rfl, hA.upd hj hF ⟨hB3, hlen3.trans hlen⟩ ⟨he, fun y hy => Or.inr (hys y hy)⟩, hF.kC2 hB2⟩
/-! correct -/
abbrev sB.corL (B : sB) (j : Nat) (p : Int32) (g : Nat) (c : Int32) : Nat → sL := putL B.ls j (p, g, c, (B.ls j).r, 0)
def sB.corV (B : sB) (j : Nat) (p : Int32) (g : Nat) (c : Int32) : Int64 := LI (totalZ (eX (B.corL j p g c)) B.n B.L B.wy) - tSum (B.corL j p g c) B.n
def sp_correct (S : Nat → sB) (bill at9 p g c : Int32) : aR × (Nat → sB) := spM S bill fun i B => if InD at9 B.n then (if okPD p g c then (if ¬ B.cl = 0 then (.inl (some (.long (B.corV at9.toNatClampNeg p g.toNatClampNeg c))), upS S i (B.pl, B.wy, B.cl, B.n, putL (B.corL at9.toNatClampNeg p g.toNatClampNeg c) at9.toNatClampNeg (p, g.toNatClampNeg, c, (B.ls at9.toNatClampNeg).r, B.corV at9.toNatClampNeg p g.toNatClampNeg c))) else (.inr eIS, S)) else (.inr eIA, S)) else (.inr eIO, S)
theorem f_correct (hst : (gl G).stackTraces = false) (hd : 18 ≤ d) (h : aH) {x : Nat} {S : Nat → sB} (hC : Cls G h x S) (bill at9 p g c : Int32) : CT G iX2_correct d 5 31 [.ref x, .int bill, .int at9, .int p, .int g, .int c] h (kM G x h (sp_correct S bill at9 p g c).1 (sp_correct S bill at9 p g c).2) := by
  obtain ⟨q, fb, fa, fe, fx, hA⟩ := id hC
  obtain ⟨hx, hq, hb, hD⟩ := id hA
  unfold sp_correct
  refine ct_of (L := [some (.ref x), some (.int bill), some (.int at9), some (.int p), some (.int g), some (.int c), none, none]) (plainFor_of_name (by decide +kernel)) rfl hst rfl rfl (Nat.le_of_ble_eq_true rfl) ?_
  refine bX2_correct_0 (by omega) _ _ _ _ _ ?_
  try simp only [o_iadd, o_isub, o_imul, o_iand, o_ladd, o_lsub, o_lmul, o_land, o_lxor, o_ineg, o_lneg, o_i2l, o_l2i, o_i2f, o_l2d, o_lcmp, o_dcmp, o_fcmp, o_ldiv, o_lrem, o_fdiv, o_ddiv, o_f2d, o_c, o_iload, o_lload, o_fload, o_dload, o_aload, o_istore, o_lstore, o_fstore, o_dstore, o_astore, o_iinc, o_dup, o_pop, o_dupx1, o_dup2, o_dup2l, o_ifeq, o_iceq, o_ifne, o_icne, o_iflt, o_iclt, o_ifge, o_icge, o_ifgt, o_icgt, o_ifle, o_icle, o_at, o_iret, o_lret, o_fret, o_dret, o_zret, o_cret, o_vret, o_aret, o_get, o_put, o_new, o_ald, o_iast, o_last, o_dast, o_aast, o_alen, o_newa, o_cast, o_acmpeq, o_acmpne, o_calls, o_callv, o_calln, o_calli, o_obj, o_throw, o_callh, o_sw, o_acopy, lg, lset1, lset2, lk, aPop, Value.category, List.map_cons, List.map_nil, List.sum_cons, List.sum_nil, Option.toList, List.cons_append, List.nil_append, true_and, and_true, aTFit, if_true, if_false, kV, eq_self, and_self]
  refine ⟨Nat.le_of_ble_eq_true rfl, aKind.mk hx rfl, aCt.mk (c_billAt hst (by omega) h x q _ _ _ bill hx hq) (by decide) (by decide) ?_⟩
  rintro r h1 ⟨⟨i, b, hi, rfl, hbi, rfl⟩ | ⟨hn, rfl⟩, hh⟩
  rotate_left
  · obtain rfl := hh.symm
    rw [spM_no hn]
    exact ⟨rfl, hC, kC2.refl h⟩
  obtain rfl := hh.symm
  obtain rfl := three hi hbi
  obtain ⟨hB, hlen⟩ := hb i hi
  obtain ⟨hb9, hal, hl, hnd, hpl, hwy, hcl, hok⟩ := id hB
  have hn9 := hal.1
  rw [spM_ok hi]
  have hI := inD_iff (x := at9) (n := (S i).n) (by omega)
  try simp only [o_iadd, o_isub, o_imul, o_iand, o_ladd, o_lsub, o_lmul, o_land, o_lxor, o_ineg, o_lneg, o_i2l, o_l2i, o_i2f, o_l2d, o_lcmp, o_dcmp, o_fcmp, o_ldiv, o_lrem, o_fdiv, o_ddiv, o_f2d, o_c, o_iload, o_lload, o_fload, o_dload, o_aload, o_istore, o_lstore, o_fstore, o_dstore, o_astore, o_iinc, o_dup, o_pop, o_dupx1, o_dup2, o_dup2l, o_ifeq, o_iceq, o_ifne, o_icne, o_iflt, o_iclt, o_ifge, o_icge, o_ifgt, o_icgt, o_ifle, o_icle, o_at, o_iret, o_lret, o_fret, o_dret, o_zret, o_cret, o_vret, o_aret, o_get, o_put, o_new, o_ald, o_iast, o_last, o_dast, o_aast, o_alen, o_newa, o_cast, o_acmpeq, o_acmpne, o_calls, o_callv, o_calln, o_calli, o_obj, o_throw, o_callh, o_sw, o_acopy, lg, lset1, lset2, lk, aPop, Value.category, List.map_cons, List.map_nil, List.sum_cons, List.sum_nil, Option.toList, List.cons_append, List.nil_append, true_and, and_true, aTFit, if_true, if_false, kV, eq_self, and_self]
  refine bX2_correct_5 (by omega) _ _ _ _ _ ?_
  try simp only [o_iadd, o_isub, o_imul, o_iand, o_ladd, o_lsub, o_lmul, o_land, o_lxor, o_ineg, o_lneg, o_i2l, o_l2i, o_i2f, o_l2d, o_lcmp, o_dcmp, o_fcmp, o_ldiv, o_lrem, o_fdiv, o_ddiv, o_f2d, o_c, o_iload, o_lload, o_fload, o_dload, o_aload, o_istore, o_lstore, o_fstore, o_dstore, o_astore, o_iinc, o_dup, o_pop, o_dupx1, o_dup2, o_dup2l, o_ifeq, o_iceq, o_ifne, o_icne, o_iflt, o_iclt, o_ifge, o_icge, o_ifgt, o_icgt, o_ifle, o_icle, o_at, o_iret, o_lret, o_fret, o_dret, o_zret, o_cret, o_vret, o_aret, o_get, o_put, o_new, o_ald, o_iast, o_last, o_dast, o_aast, o_alen, o_newa, o_cast, o_acmpeq, o_acmpne, o_calls, o_callv, o_calln, o_calli, o_obj, o_throw, o_callh, o_sw, o_acopy, lg, lset1, lset2, lk, aPop, Value.category, List.map_cons, List.map_nil, List.sum_cons, List.sum_nil, Option.toList, List.cons_append, List.nil_append, true_and, and_true, aTFit, if_true, if_false, kV, eq_self, and_self]
  refine ⟨Nat.le_of_ble_eq_true rfl, aCt.mk (c_checkLine hst (by omega) h hB at9) (by decide) (by decide) ?_⟩
  rw [hlen]
  rintro r h1 ⟨⟨c1, rfl⟩ | ⟨c1, rfl⟩, hh⟩
  rotate_left
  · obtain rfl := hh.symm
    rw [if_neg (fun z => c1 (hI.mpr z))]
    exact ⟨rfl, hC, kC2.refl h⟩
  obtain rfl := hh.symm
  rw [if_pos (hI.mp c1)]
  try simp only [o_iadd, o_isub, o_imul, o_iand, o_ladd, o_lsub, o_lmul, o_land, o_lxor, o_ineg, o_lneg, o_i2l, o_l2i, o_i2f, o_l2d, o_lcmp, o_dcmp, o_fcmp, o_ldiv, o_lrem, o_fdiv, o_ddiv, o_f2d, o_c, o_iload, o_lload, o_fload, o_dload, o_aload, o_istore, o_lstore, o_fstore, o_dstore, o_astore, o_iinc, o_dup, o_pop, o_dupx1, o_dup2, o_dup2l, o_ifeq, o_iceq, o_ifne, o_icne, o_iflt, o_iclt, o_ifge, o_icge, o_ifgt, o_icgt, o_ifle, o_icle, o_at, o_iret, o_lret, o_fret, o_dret, o_zret, o_cret, o_vret, o_aret, o_get, o_put, o_new, o_ald, o_iast, o_last, o_dast, o_aast, o_alen, o_newa, o_cast, o_acmpeq, o_acmpne, o_calls, o_callv, o_calln, o_calli, o_obj, o_throw, o_callh, o_sw, o_acopy, lg, lset1, lset2, lk, aPop, Value.category, List.map_cons, List.map_nil, List.sum_cons, List.sum_nil, Option.toList, List.cons_append, List.nil_append, true_and, and_true, aTFit, if_true, if_false, kV, eq_self, and_self]
  refine bX2_correct_13 (by omega) _ _ _ _ _ ?_
  try simp only [o_iadd, o_isub, o_imul, o_iand, o_ladd, o_lsub, o_lmul, o_land, o_lxor, o_ineg, o_lneg, o_i2l, o_l2i, o_i2f, o_l2d, o_lcmp, o_dcmp, o_fcmp, o_ldiv, o_lrem, o_fdiv, o_ddiv, o_f2d, o_c, o_iload, o_lload, o_fload, o_dload, o_aload, o_istore, o_lstore, o_fstore, o_dstore, o_astore, o_iinc, o_dup, o_pop, o_dupx1, o_dup2, o_dup2l, o_ifeq, o_iceq, o_ifne, o_icne, o_iflt, o_iclt, o_ifge, o_icge, o_ifgt, o_icgt, o_ifle, o_icle, o_at, o_iret, o_lret, o_fret, o_dret, o_zret, o_cret, o_vret, o_aret, o_get, o_put, o_new, o_ald, o_iast, o_last, o_dast, o_aast, o_alen, o_newa, o_cast, o_acmpeq, o_acmpne, o_calls, o_callv, o_calln, o_calli, o_obj, o_throw, o_callh, o_sw, o_acopy, lg, lset1, lset2, lk, aPop, Value.category, List.map_cons, List.map_nil, List.sum_cons, List.sum_nil, Option.toList, List.cons_append, List.nil_append, true_and, and_true, aTFit, if_true, if_false, kV, eq_self, and_self]
  refine ⟨Nat.le_of_ble_eq_true rfl, aCt.mk (c_checkPrice hst (by omega) h p g c) (by decide) (by decide) ?_⟩
  rintro r h1 ⟨⟨c2, rfl⟩ | ⟨c2, rfl⟩, hh⟩
  rotate_left
  · obtain rfl := hh.symm
    rw [if_neg (fun z => c2 ((okP_iff p g c).mpr z))]
    exact ⟨rfl, hC, kC2.refl h⟩
  obtain rfl := hh.symm
  rw [if_pos ((okP_iff p g c).mp c2)]
  try simp only [o_iadd, o_isub, o_imul, o_iand, o_ladd, o_lsub, o_lmul, o_land, o_lxor, o_ineg, o_lneg, o_i2l, o_l2i, o_i2f, o_l2d, o_lcmp, o_dcmp, o_fcmp, o_ldiv, o_lrem, o_fdiv, o_ddiv, o_f2d, o_c, o_iload, o_lload, o_fload, o_dload, o_aload, o_istore, o_lstore, o_fstore, o_dstore, o_astore, o_iinc, o_dup, o_pop, o_dupx1, o_dup2, o_dup2l, o_ifeq, o_iceq, o_ifne, o_icne, o_iflt, o_iclt, o_ifge, o_icge, o_ifgt, o_icgt, o_ifle, o_icle, o_at, o_iret, o_lret, o_fret, o_dret, o_zret, o_cret, o_vret, o_aret, o_get, o_put, o_new, o_ald, o_iast, o_last, o_dast, o_aast, o_alen, o_newa, o_cast, o_acmpeq, o_acmpne, o_calls, o_callv, o_calln, o_calli, o_obj, o_throw, o_callh, o_sw, o_acopy, lg, lset1, lset2, lk, aPop, Value.category, List.map_cons, List.map_nil, List.sum_cons, List.sum_nil, Option.toList, List.cons_append, List.nil_append, true_and, and_true, aTFit, if_true, if_false, kV, eq_self, and_self]
  refine bX2_correct_21 (by omega) _ _ _ _ _ ?_
  try simp only [o_iadd, o_isub, o_imul, o_iand, o_ladd, o_lsub, o_lmul, o_land, o_lxor, o_ineg, o_lneg, o_i2l, o_l2i, o_i2f, o_l2d, o_lcmp, o_dcmp, o_fcmp, o_ldiv, o_lrem, o_fdiv, o_ddiv, o_f2d, o_c, o_iload, o_lload, o_fload, o_dload, o_aload, o_istore, o_lstore, o_fstore, o_dstore, o_astore, o_iinc, o_dup, o_pop, o_dupx1, o_dup2, o_dup2l, o_ifeq, o_iceq, o_ifne, o_icne, o_iflt, o_iclt, o_ifge, o_icge, o_ifgt, o_icgt, o_ifle, o_icle, o_at, o_iret, o_lret, o_fret, o_dret, o_zret, o_cret, o_vret, o_aret, o_get, o_put, o_new, o_ald, o_iast, o_last, o_dast, o_aast, o_alen, o_newa, o_cast, o_acmpeq, o_acmpne, o_calls, o_callv, o_calln, o_calli, o_obj, o_throw, o_callh, o_sw, o_acopy, lg, lset1, lset2, lk, aPop, Value.category, List.map_cons, List.map_nil, List.sum_cons, List.sum_nil, Option.toList, List.cons_append, List.nil_append, true_and, and_true, aTFit, if_true, if_false, kV, eq_self, and_self]
  refine ⟨Nat.le_of_ble_eq_true rfl, aCt.mk (c_checkClosed hst (by omega) h hB) (by decide) (by decide) ?_⟩
  rintro r h1 ⟨⟨c3, rfl⟩ | ⟨c3, rfl⟩, hh⟩
  rotate_left
  · obtain rfl := hh.symm
    rw [if_neg c3]
    exact ⟨rfl, hC, kC2.refl h⟩
  obtain rfl := hh.symm
  rw [if_pos c3]
  try simp only [o_iadd, o_isub, o_imul, o_iand, o_ladd, o_lsub, o_lmul, o_land, o_lxor, o_ineg, o_lneg, o_i2l, o_l2i, o_i2f, o_l2d, o_lcmp, o_dcmp, o_fcmp, o_ldiv, o_lrem, o_fdiv, o_ddiv, o_f2d, o_c, o_iload, o_lload, o_fload, o_dload, o_aload, o_istore, o_lstore, o_fstore, o_dstore, o_astore, o_iinc, o_dup, o_pop, o_dupx1, o_dup2, o_dup2l, o_ifeq, o_iceq, o_ifne, o_icne, o_iflt, o_iclt, o_ifge, o_icge, o_ifgt, o_icgt, o_ifle, o_icle, o_at, o_iret, o_lret, o_fret, o_dret, o_zret, o_cret, o_vret, o_aret, o_get, o_put, o_new, o_ald, o_iast, o_last, o_dast, o_aast, o_alen, o_newa, o_cast, o_acmpeq, o_acmpne, o_calls, o_callv, o_calln, o_calli, o_obj, o_throw, o_callh, o_sw, o_acopy, lg, lset1, lset2, lk, aPop, Value.category, List.map_cons, List.map_nil, List.sum_cons, List.sum_nil, Option.toList, List.cons_append, List.nil_append, true_and, and_true, aTFit, if_true, if_false, kV, eq_self, and_self]
  obtain ⟨j, hj, rfl⟩ := c1
  obtain ⟨hp, ⟨g2, hg2, rfl⟩, hc⟩ := c2
  rw [nI_clamp (by omega), nI_clamp (by omega)]
  have hjx : j < (fx i).length := by omega
  have hol : ∀ t, sL.ok (p, g2, c, ((S i).ls j).r, t) := fun t => ⟨hp, by show g2 ≤ 4; omega, hc, (hok j hjx).2.2.2⟩
  obtain ⟨-, ⟨m, ha⟩, -⟩ := id hal
  have hlx := hl j hjx
  refine bX2_correct_26 (by omega) _ _ _ _ _ ?_
  try simp only [o_iadd, o_isub, o_imul, o_iand, o_ladd, o_lsub, o_lmul, o_land, o_lxor, o_ineg, o_lneg, o_i2l, o_l2i, o_i2f, o_l2d, o_lcmp, o_dcmp, o_fcmp, o_ldiv, o_lrem, o_fdiv, o_ddiv, o_f2d, o_c, o_iload, o_lload, o_fload, o_dload, o_aload, o_istore, o_lstore, o_fstore, o_dstore, o_astore, o_iinc, o_dup, o_pop, o_dupx1, o_dup2, o_dup2l, o_ifeq, o_iceq, o_ifne, o_icne, o_iflt, o_iclt, o_ifge, o_icge, o_ifgt, o_icgt, o_ifle, o_icle, o_at, o_iret, o_lret, o_fret, o_dret, o_zret, o_cret, o_vret, o_aret, o_get, o_put, o_new, o_ald, o_iast, o_last, o_dast, o_aast, o_alen, o_newa, o_cast, o_acmpeq, o_acmpne, o_calls, o_callv, o_calln, o_calli, o_obj, o_throw, o_callh, o_sw, o_acopy, lg, lset1, lset2, lk, aPop, Value.category, List.map_cons, List.map_nil, List.sum_cons, List.sum_nil, Option.toList, List.cons_append, List.nil_append, true_and, and_true, aTFit, if_true, if_false, kV, eq_self, and_self]
  refine ⟨by decide, by decide, fun w hw => ?_⟩
  have hxw := fr_ne hlx hw
  have hB2 := hB.fr (c := (2, [.int 0, .int 0, .int 0, .int 0, .long 0, .long 0, .long 0])) hw
  refine aObj.mk hB2.1 (aVal.mk rfl ⟨Nat.le_of_ble_eq_true rfl, aKind.mk ((aUp_ne (fr_ne ha hw)).trans ha) rfl, aCt.mk (c_alget hst (by omega) _ _ _ j _ hB2.2.1 hjx) (Nat.zero_le _) (Nat.zero_le _) ?_⟩)
  rintro r h1 ⟨rfl, hh⟩
  obtain rfl := hh.symm
  try simp only [o_iadd, o_isub, o_imul, o_iand, o_ladd, o_lsub, o_lmul, o_land, o_lxor, o_ineg, o_lneg, o_i2l, o_l2i, o_i2f, o_l2d, o_lcmp, o_dcmp, o_fcmp, o_ldiv, o_lrem, o_fdiv, o_ddiv, o_f2d, o_c, o_iload, o_lload, o_fload, o_dload, o_aload, o_istore, o_lstore, o_fstore, o_dstore, o_astore, o_iinc, o_dup, o_pop, o_dupx1, o_dup2, o_dup2l, o_ifeq, o_iceq, o_ifne, o_icne, o_iflt, o_iclt, o_ifge, o_icge, o_ifgt, o_icgt, o_ifle, o_icle, o_at, o_iret, o_lret, o_fret, o_dret, o_zret, o_cret, o_vret, o_aret, o_get, o_put, o_new, o_ald, o_iast, o_last, o_dast, o_aast, o_alen, o_newa, o_cast, o_acmpeq, o_acmpne, o_calls, o_callv, o_calln, o_calli, o_obj, o_throw, o_callh, o_sw, o_acopy, lg, lset1, lset2, lk, aPop, Value.category, List.map_cons, List.map_nil, List.sum_cons, List.sum_nil, Option.toList, List.cons_append, List.nil_append, true_and, and_true, aTFit, if_true, if_false, kV, eq_self, and_self]
  refine bX2_correct_44 (by omega) _ _ _ _ _ ?_
  try simp only [o_iadd, o_isub, o_imul, o_iand, o_ladd, o_lsub, o_lmul, o_land, o_lxor, o_ineg, o_lneg, o_i2l, o_l2i, o_i2f, o_l2d, o_lcmp, o_dcmp, o_fcmp, o_ldiv, o_lrem, o_fdiv, o_ddiv, o_f2d, o_c, o_iload, o_lload, o_fload, o_dload, o_aload, o_istore, o_lstore, o_fstore, o_dstore, o_astore, o_iinc, o_dup, o_pop, o_dupx1, o_dup2, o_dup2l, o_ifeq, o_iceq, o_ifne, o_icne, o_iflt, o_iclt, o_ifge, o_icge, o_ifgt, o_icgt, o_ifle, o_icle, o_at, o_iret, o_lret, o_fret, o_dret, o_zret, o_cret, o_vret, o_aret, o_get, o_put, o_new, o_ald, o_iast, o_last, o_dast, o_aast, o_alen, o_newa, o_cast, o_acmpeq, o_acmpne, o_calls, o_callv, o_calln, o_calli, o_obj, o_throw, o_callh, o_sw, o_acopy, lg, lset1, lset2, lk, aPop, Value.category, List.map_cons, List.map_nil, List.sum_cons, List.sum_nil, Option.toList, List.cons_append, List.nil_append, true_and, and_true, aTFit, if_true, if_false, kV, eq_self, and_self]
  refine aKind.mk ((aUp_ne hxw).trans hlx) ⟨rfl, aObj.mk ((aUp_ne hxw).trans hlx) (aVal.mk rfl ?_)⟩
  try simp only [o_iadd, o_isub, o_imul, o_iand, o_ladd, o_lsub, o_lmul, o_land, o_lxor, o_ineg, o_lneg, o_i2l, o_l2i, o_i2f, o_l2d, o_lcmp, o_dcmp, o_fcmp, o_ldiv, o_lrem, o_fdiv, o_ddiv, o_f2d, o_c, o_iload, o_lload, o_fload, o_dload, o_aload, o_istore, o_lstore, o_fstore, o_dstore, o_astore, o_iinc, o_dup, o_pop, o_dupx1, o_dup2, o_dup2l, o_ifeq, o_iceq, o_ifne, o_icne, o_iflt, o_iclt, o_ifge, o_icge, o_ifgt, o_icgt, o_ifle, o_icle, o_at, o_iret, o_lret, o_fret, o_dret, o_zret, o_cret, o_vret, o_aret, o_get, o_put, o_new, o_ald, o_iast, o_last, o_dast, o_aast, o_alen, o_newa, o_cast, o_acmpeq, o_acmpne, o_calls, o_callv, o_calln, o_calli, o_obj, o_throw, o_callh, o_sw, o_acopy, lg, lset1, lset2, lk, aPop, Value.category, List.map_cons, List.map_nil, List.sum_cons, List.sum_nil, Option.toList, List.cons_append, List.nil_append, true_and, and_true, aTFit, if_true, if_false, kV, eq_self, and_self]
  refine ⟨Nat.le_of_ble_eq_true rfl, aCn.mk (c_lineInit hst (by omega) _ w (p, g2, c, ((S i).ls j).r, 0) (hol 0) _ _ _ _ _ _ (aUp_eq _ _ _)) (Nat.zero_le _) (Nat.zero_le _) (by rintro E h' ⟨z, -⟩; cases z) ?_⟩
  rintro v h4 ⟨z, rfl⟩
  cases z
  try simp only [o_iadd, o_isub, o_imul, o_iand, o_ladd, o_lsub, o_lmul, o_land, o_lxor, o_ineg, o_lneg, o_i2l, o_l2i, o_i2f, o_l2d, o_lcmp, o_dcmp, o_fcmp, o_ldiv, o_lrem, o_fdiv, o_ddiv, o_f2d, o_c, o_iload, o_lload, o_fload, o_dload, o_aload, o_istore, o_lstore, o_fstore, o_dstore, o_astore, o_iinc, o_dup, o_pop, o_dupx1, o_dup2, o_dup2l, o_ifeq, o_iceq, o_ifne, o_icne, o_iflt, o_iclt, o_ifge, o_icge, o_ifgt, o_icgt, o_ifle, o_icle, o_at, o_iret, o_lret, o_fret, o_dret, o_zret, o_cret, o_vret, o_aret, o_get, o_put, o_new, o_ald, o_iast, o_last, o_dast, o_aast, o_alen, o_newa, o_cast, o_acmpeq, o_acmpne, o_calls, o_callv, o_calln, o_calli, o_obj, o_throw, o_callh, o_sw, o_acopy, lg, lset1, lset2, lk, aPop, Value.category, List.map_cons, List.map_nil, List.sum_cons, List.sum_nil, Option.toList, List.cons_append, List.nil_append, true_and, and_true, aTFit, if_true, if_false, kV, eq_self, and_self]
  rw [aUp_same]
  have hB3 := hB.fr (c := (2, lnV (setT (p, g2, c, ((S i).ls j).r, 0) 0))) hw
  refine bX2_correct_53 (by omega) _ _ _ _ _ ?_
  try simp only [o_iadd, o_isub, o_imul, o_iand, o_ladd, o_lsub, o_lmul, o_land, o_lxor, o_ineg, o_lneg, o_i2l, o_l2i, o_i2f, o_l2d, o_lcmp, o_dcmp, o_fcmp, o_ldiv, o_lrem, o_fdiv, o_ddiv, o_f2d, o_c, o_iload, o_lload, o_fload, o_dload, o_aload, o_istore, o_lstore, o_fstore, o_dstore, o_astore, o_iinc, o_dup, o_pop, o_dupx1, o_dup2, o_dup2l, o_ifeq, o_iceq, o_ifne, o_icne, o_iflt, o_iclt, o_ifge, o_icge, o_ifgt, o_icgt, o_ifle, o_icle, o_at, o_iret, o_lret, o_fret, o_dret, o_zret, o_cret, o_vret, o_aret, o_get, o_put, o_new, o_ald, o_iast, o_last, o_dast, o_aast, o_alen, o_newa, o_cast, o_acmpeq, o_acmpne, o_calls, o_callv, o_calln, o_calli, o_obj, o_throw, o_callh, o_sw, o_acopy, lg, lset1, lset2, lk, aPop, Value.category, List.map_cons, List.map_nil, List.sum_cons, List.sum_nil, Option.toList, List.cons_append, List.nil_append, true_and, and_true, aTFit, if_true, if_false, kV, eq_self, and_self]
  refine aObj.mk hB3.1 (aVal.mk rfl ⟨Nat.le_of_ble_eq_true rfl, aKind.mk ((aUp_ne (fr_ne ha hw)).trans ha) rfl, aCt.mk (c_alset hst (by omega) _ _ _ j w _ hB3.2.1 hjx (aKind.mk (aUp_eq _ _ _) rfl)) (by decide) (by decide) ?_⟩)
  rintro r h4 ⟨m', rfl, rfl, hne⟩
  have hB4 := hB3.repl (m := m') (aUp_eq _ _ _) (hB.fresh hw) (hol 0) hjx hne
  have hlen4 : ((fx i).set j w).length = (S i).n := by rw [List.length_set, hlen]
  have hF : Fr G h (alUp G (aUp h w (2, lnV (setT (p, g2, c, ((S i).ls j).r, 0) 0))) (fa i) m' (fe i) ((fx i).set j w)) (fb i) (fa i) (fe i) (fx i) := Fr.set hw (Or.inl rfl)
  have hjw : ((fx i).set j w)[j]'(by omega) = w := List.getElem_set_self _
  have hwl := hB4.2.2.1 j (by omega)
  rw [hjw] at hwl
  simp only [if_true] at hwl
  try simp only [o_iadd, o_isub, o_imul, o_iand, o_ladd, o_lsub, o_lmul, o_land, o_lxor, o_ineg, o_lneg, o_i2l, o_l2i, o_i2f, o_l2d, o_lcmp, o_dcmp, o_fcmp, o_ldiv, o_lrem, o_fdiv, o_ddiv, o_f2d, o_c, o_iload, o_lload, o_fload, o_dload, o_aload, o_istore, o_lstore, o_fstore, o_dstore, o_astore, o_iinc, o_dup, o_pop, o_dupx1, o_dup2, o_dup2l, o_ifeq, o_iceq, o_ifne, o_icne, o_iflt, o_iclt, o_ifge, o_icge, o_ifgt, o_icgt, o_ifle, o_icle, o_at, o_iret, o_lret, o_fret, o_dret, o_zret, o_cret, o_vret, o_aret, o_get, o_put, o_new, o_ald, o_iast, o_last, o_dast, o_aast, o_alen, o_newa, o_cast, o_acmpeq, o_acmpne, o_calls, o_callv, o_calln, o_calli, o_obj, o_throw, o_callh, o_sw, o_acopy, lg, lset1, lset2, lk, aPop, Value.category, List.map_cons, List.map_nil, List.sum_cons, List.sum_nil, Option.toList, List.cons_append, List.nil_append, true_and, and_true, aTFit, if_true, if_false, kV, eq_self, and_self]
  refine bX2_correct_66 (by omega) _ _ _ _ _ ?_
  try simp only [o_iadd, o_isub, o_imul, o_iand, o_ladd, o_lsub, o_lmul, o_land, o_lxor, o_ineg, o_lneg, o_i2l, o_l2i, o_i2f, o_l2d, o_lcmp, o_dcmp, o_fcmp, o_ldiv, o_lrem, o_fdiv, o_ddiv, o_f2d, o_c, o_iload, o_lload, o_fload, o_dload, o_aload, o_istore, o_lstore, o_fstore, o_dstore, o_astore, o_iinc, o_dup, o_pop, o_dupx1, o_dup2, o_dup2l, o_ifeq, o_iceq, o_ifne, o_icne, o_iflt, o_iclt, o_ifge, o_icge, o_ifgt, o_icgt, o_ifle, o_icle, o_at, o_iret, o_lret, o_fret, o_dret, o_zret, o_cret, o_vret, o_aret, o_get, o_put, o_new, o_ald, o_iast, o_last, o_dast, o_aast, o_alen, o_newa, o_cast, o_acmpeq, o_acmpne, o_calls, o_callv, o_calln, o_calli, o_obj, o_throw, o_callh, o_sw, o_acopy, lg, lset1, lset2, lk, aPop, Value.category, List.map_cons, List.map_nil, List.sum_cons, List.sum_nil, Option.toList, List.cons_append, List.nil_append, true_and, and_true, aTFit, if_true, if_false, kV, eq_self, and_self]
  refine ⟨Nat.le_of_ble_eq_true rfl, aKind.mk hB4.1 rfl, aCt.mk (c_cutWhole hst (by omega) _ hB4) (Nat.zero_le _) (Nat.zero_le _) ?_⟩
  rintro r h1 ⟨rfl, hh⟩
  obtain rfl := hh.symm
  try simp only [o_iadd, o_isub, o_imul, o_iand, o_ladd, o_lsub, o_lmul, o_land, o_lxor, o_ineg, o_lneg, o_i2l, o_l2i, o_i2f, o_l2d, o_lcmp, o_dcmp, o_fcmp, o_ldiv, o_lrem, o_fdiv, o_ddiv, o_f2d, o_c, o_iload, o_lload, o_fload, o_dload, o_aload, o_istore, o_lstore, o_fstore, o_dstore, o_astore, o_iinc, o_dup, o_pop, o_dupx1, o_dup2, o_dup2l, o_ifeq, o_iceq, o_ifne, o_icne, o_iflt, o_iclt, o_ifge, o_icge, o_ifgt, o_icgt, o_ifle, o_icle, o_at, o_iret, o_lret, o_fret, o_dret, o_zret, o_cret, o_vret, o_aret, o_get, o_put, o_new, o_ald, o_iast, o_last, o_dast, o_aast, o_alen, o_newa, o_cast, o_acmpeq, o_acmpne, o_calls, o_callv, o_calln, o_calli, o_obj, o_throw, o_callh, o_sw, o_acopy, lg, lset1, lset2, lk, aPop, Value.category, List.map_cons, List.map_nil, List.sum_cons, List.sum_nil, Option.toList, List.cons_append, List.nil_append, true_and, and_true, aTFit, if_true, if_false, kV, eq_self, and_self]
  refine bX2_correct_74 (by omega) _ _ _ _ _ ?_
  try simp only [o_iadd, o_isub, o_imul, o_iand, o_ladd, o_lsub, o_lmul, o_land, o_lxor, o_ineg, o_lneg, o_i2l, o_l2i, o_i2f, o_l2d, o_lcmp, o_dcmp, o_fcmp, o_ldiv, o_lrem, o_fdiv, o_ddiv, o_f2d, o_c, o_iload, o_lload, o_fload, o_dload, o_aload, o_istore, o_lstore, o_fstore, o_dstore, o_astore, o_iinc, o_dup, o_pop, o_dupx1, o_dup2, o_dup2l, o_ifeq, o_iceq, o_ifne, o_icne, o_iflt, o_iclt, o_ifge, o_icge, o_ifgt, o_icgt, o_ifle, o_icle, o_at, o_iret, o_lret, o_fret, o_dret, o_zret, o_cret, o_vret, o_aret, o_get, o_put, o_new, o_ald, o_iast, o_last, o_dast, o_aast, o_alen, o_newa, o_cast, o_acmpeq, o_acmpne, o_calls, o_callv, o_calln, o_calli, o_obj, o_throw, o_callh, o_sw, o_acopy, lg, lset1, lset2, lk, aPop, Value.category, List.map_cons, List.map_nil, List.sum_cons, List.sum_nil, Option.toList, List.cons_append, List.nil_append, true_and, and_true, aTFit, if_true, if_false, kV, eq_self, and_self]
  refine ⟨Nat.le_of_ble_eq_true rfl, aKind.mk hB4.1 rfl, aCt.mk (c_sumKept hst (by omega) _ hB4) (Nat.zero_le _) (Nat.zero_le _) ?_⟩
  rintro r h1 ⟨rfl, hh⟩
  obtain rfl := hh.symm
  try simp only [o_iadd, o_isub, o_imul, o_iand, o_ladd, o_lsub, o_lmul, o_land, o_lxor, o_ineg, o_lneg, o_i2l, o_l2i, o_i2f, o_l2d, o_lcmp, o_dcmp, o_fcmp, o_ldiv, o_lrem, o_fdiv, o_ddiv, o_f2d, o_c, o_iload, o_lload, o_fload, o_dload, o_aload, o_istore, o_lstore, o_fstore, o_dstore, o_astore, o_iinc, o_dup, o_pop, o_dupx1, o_dup2, o_dup2l, o_ifeq, o_iceq, o_ifne, o_icne, o_iflt, o_iclt, o_ifge, o_icge, o_ifgt, o_icgt, o_ifle, o_icle, o_at, o_iret, o_lret, o_fret, o_dret, o_zret, o_cret, o_vret, o_aret, o_get, o_put, o_new, o_ald, o_iast, o_last, o_dast, o_aast, o_alen, o_newa, o_cast, o_acmpeq, o_acmpne, o_calls, o_callv, o_calln, o_calli, o_obj, o_throw, o_callh, o_sw, o_acopy, lg, lset1, lset2, lk, aPop, Value.category, List.map_cons, List.map_nil, List.sum_cons, List.sum_nil, Option.toList, List.cons_append, List.nil_append, true_and, and_true, aTFit, if_true, if_false, kV, eq_self, and_self]
  rw [hlen4]
  refine bX2_correct_79 (by omega) _ _ _ _ _ ?_
  try simp only [o_iadd, o_isub, o_imul, o_iand, o_ladd, o_lsub, o_lmul, o_land, o_lxor, o_ineg, o_lneg, o_i2l, o_l2i, o_i2f, o_l2d, o_lcmp, o_dcmp, o_fcmp, o_ldiv, o_lrem, o_fdiv, o_ddiv, o_f2d, o_c, o_iload, o_lload, o_fload, o_dload, o_aload, o_istore, o_lstore, o_fstore, o_dstore, o_astore, o_iinc, o_dup, o_pop, o_dupx1, o_dup2, o_dup2l, o_ifeq, o_iceq, o_ifne, o_icne, o_iflt, o_iclt, o_ifge, o_icge, o_ifgt, o_icgt, o_ifle, o_icle, o_at, o_iret, o_lret, o_fret, o_dret, o_zret, o_cret, o_vret, o_aret, o_get, o_put, o_new, o_ald, o_iast, o_last, o_dast, o_aast, o_alen, o_newa, o_cast, o_acmpeq, o_acmpne, o_calls, o_callv, o_calln, o_calli, o_obj, o_throw, o_callh, o_sw, o_acopy, lg, lset1, lset2, lk, aPop, Value.category, List.map_cons, List.map_nil, List.sum_cons, List.sum_nil, Option.toList, List.cons_append, List.nil_append, true_and, and_true, aTFit, if_true, if_false, kV, eq_self, and_self]
  refine aObj.mk hwl ?_
  refine aObj.mk (aUp_eq _ _ _) (aVal.mk rfl ?_)
  try simp only [o_iadd, o_isub, o_imul, o_iand, o_ladd, o_lsub, o_lmul, o_land, o_lxor, o_ineg, o_lneg, o_i2l, o_l2i, o_i2f, o_l2d, o_lcmp, o_dcmp, o_fcmp, o_ldiv, o_lrem, o_fdiv, o_ddiv, o_f2d, o_c, o_iload, o_lload, o_fload, o_dload, o_aload, o_istore, o_lstore, o_fstore, o_dstore, o_astore, o_iinc, o_dup, o_pop, o_dupx1, o_dup2, o_dup2l, o_ifeq, o_iceq, o_ifne, o_icne, o_iflt, o_iclt, o_ifge, o_icge, o_ifgt, o_icgt, o_ifle, o_icle, o_at, o_iret, o_lret, o_fret, o_dret, o_zret, o_cret, o_vret, o_aret, o_get, o_put, o_new, o_ald, o_iast, o_last, o_dast, o_aast, o_alen, o_newa, o_cast, o_acmpeq, o_acmpne, o_calls, o_callv, o_calln, o_calli, o_obj, o_throw, o_callh, o_sw, o_acopy, lg, lset1, lset2, lk, aPop, Value.category, List.map_cons, List.map_nil, List.sum_cons, List.sum_nil, Option.toList, List.cons_append, List.nil_append, true_and, and_true, aTFit, if_true, if_false, kV, eq_self, and_self]
  have hB5 := hB4.line (i := j) (by omega) (hol ((S i).corV j p g2 c))
  rw [hjw] at hB5
  have hF5 : Fr G h (aUp (alUp G (aUp h w (2, lnV (setT (p, g2, c, ((S i).ls j).r, 0) 0))) (fa i) m' (fe i) ((fx i).set j w)) w (2, lnV (p, g2, c, ((S i).ls j).r, (S i).corV j p g2 c))) (fb i) (fa i) (fe i) (fx i) := ⟨fun y z => hF.1 y (aUp_none z), fun y z1 z2 z3 z4 z5 => (aUp_ne (fun (u : y = w) => z1 (by rw [u]; exact hw))).trans (hF.2 y z1 z2 z3 z4 z5)⟩
  refine ⟨rfl, hA.upd hi hF5 ⟨hB5, hlen4⟩ ⟨Or.inl rfl, fun y hy => ?_⟩, hF5.kC2 hB⟩
  rcases mem_setL hy with z | z
  · exact Or.inl z
  · exact Or.inr (z ▸ hw)
/-! split: one line after the other -/
/-- like upd, whatever the new cells are, if no other bill has them -/
theorem ClsA.updW {h h1 : aH} {x q : Nat} {fb fa fe : Nat → Nat} {fx : Nat → List Nat} {S : Nat → sB} (hC : ClsA G h x q fb fa fe fx S) {i : Nat} (hi : i < 3) {e2 : Nat} {ys : List Nat} {B : sB} (hF : Fr G h h1 (fb i) (fa i) (fe i) (fx i)) (hB : BvS G h1 (fb i) (fa i) e2 ys B) (hN : ∀ k, k < 3 → k ≠ i → (e2 ≠ fe k ∨ e2 = gE G) ∧ ∀ y ∈ ys, y ∉ fx k) : ClsA G h1 x q fb fa (fun j => if j = i then e2 else fe j) (fun j => if j = i then ys else fx j) (upS S i B) := by
  obtain ⟨hx, hq, hb, hD⟩ := hC
  have hk := hF.kC2 (hb i hi).1
  refine ⟨hk x _ _ hx (by decide) (by decide) (by decide) (by decide), hk q _ _ hq (by decide) (by decide) (by decide) (by decide), fun j hj => ?_, fun j hj k hkk hne => ?_⟩
  · by_cases c : j = i
    · subst c
      simp only [upS, if_true]
      exact hB
    · simp only [upS, if_neg c]
      exact ⟨(hb i hi).1.keep (hb j hj).1 (hD i hi j hj (Ne.symm c)) hF, (hb j hj).2⟩
  · obtain ⟨d1, d2, d3, d4⟩ := hD j hj k hkk hne
    refine ⟨d1, d2, ?_, ?_⟩
    · dsimp only
      by_cases c : j = i
      · subst c
        rw [if_pos rfl, if_neg (Ne.symm hne)]
        rcases (hN k hkk (Ne.symm hne)).1 with z | z
        · exact Or.inl (Ne.symm z)
        · by_cases z2 : fe k = e2
          · exact Or.inr (z2.trans z)
          · exact Or.inl z2
      · rw [if_neg c]
        by_cases c2 : k = i
        · subst c2
          rw [if_pos rfl]
          exact (hN j hj hne).1
        · rw [if_neg c2]; exact d3
    · dsimp only
      by_cases c : j = i
      · subst c
        rw [if_pos rfl, if_neg (Ne.symm hne)]
        intro y hy z
        exact (hN k hkk (Ne.symm hne)).2 y z hy
      · rw [if_neg c]
        by_cases c2 : k = i
        · subst c2
          rw [if_pos rfl]
          intro y hy z
          exact (hN j hj hne).2 y hy z
        · rw [if_neg c2]; exact d4
theorem ClsA.congr {h : aH} {x q : Nat} {fb fa fe : Nat → Nat} {fx : Nat → List Nat} {S S2 : Nat → sB} (hC : ClsA G h x q fb fa fe fx S) (hS : ∀ i, i < 3 → (S i).pl = (S2 i).pl ∧ (S i).wy = (S2 i).wy ∧ (S i).cl = (S2 i).cl ∧ (S i).n = (S2 i).n ∧ ∀ k, k < (S i).n → (S i).ls k = (S2 i).ls k) : ClsA G h x q fb fa fe fx S2 := by
  obtain ⟨hx, hq, hb, hD⟩ := hC
  refine ⟨hx, hq, fun i hi => ?_, hD⟩
  obtain ⟨h1, h2, h3, h4, h5⟩ := hS i hi
  obtain ⟨hB, hl⟩ := hb i hi
  refine ⟨?_, hl.trans h4⟩
  rw [← h1, ← h2, ← h3]
  exact hB.congr fun k hk => h5 k (by omega)
abbrev sB.srcN (B : sB) (at9 u : Nat) : sB := (B.pl, B.wy, B.cl, B.n - u, fun p => if p < at9 then B.ls p else B.ls (p + u))
abbrev sB.tgtN (C B : sB) (at9 u : Nat) : sB := (C.pl, C.wy, C.cl, C.n + u, fun p => if p < C.n then C.ls p else B.ls (at9 + (p - C.n)))
def splS (S : Nat → sB) (i j at9 u : Nat) : Nat → sB := upS (upS S i ((S i).srcN at9 u)) j ((S j).tgtN (S i) at9 u)
theorem upS_eq (S : Nat → sB) (i : Nat) (B : sB) : upS S i B i = B := if_pos rfl
theorem upS_ne (S : Nat → sB) {i k : Nat} (B : sB) (h : ¬ k = i) : upS S i B k = S k := if_neg h
theorem splS_j (S : Nat → sB) (i j a u : Nat) : splS S i j a u j = (S j).tgtN (S i) a u := upS_eq _ _ _
theorem splS_i (S : Nat → sB) {i j : Nat} (a u : Nat) (h : ¬ i = j) : splS S i j a u i = (S i).srcN a u := (upS_ne _ _ h).trans (upS_eq _ _ _)
theorem splS_o (S : Nat → sB) {i j k : Nat} (a u : Nat) (h : ¬ k = i) (h2 : ¬ k = j) : splS S i j a u k = S k := (upS_ne _ _ h2).trans (upS_ne _ _ h)
def sp_split (S : Nat → sB) (bill at9 to : Int32) : aR × (Nat → sB) := spM S bill fun i B => spM S to fun j C => if InD at9 (B.n + 1) then (if ¬ bill = to then (if B.cl = 0 then (if C.cl = 0 then (if C.n + (B.n - at9.toNatClampNeg) ≤ 9 then (aInt (C.n + (B.n - at9.toNatClampNeg)), splS S i j at9.toNatClampNeg (B.n - at9.toNatClampNeg)) else (.inr eIS, S)) else (.inr eIS, S)) else (.inr eIS, S)) else (.inr eIA, S)) else (.inr eIO, S)
theorem Bv.app {h : aH} {b a e e2 q : Nat} {ys : List Nat} {pl wy cl : Nat} {ls : Nat → sL} {l : sL} {m : Int32} (hB : Bv G h b a e ys pl wy cl ls) (hq : h q = some (2, lnV l)) (hqy : q ∉ ys) (ho : l.ok) (hn : ys.length < 9) (hne : e2 ≠ gE G) (he : e2 = e ∨ h e2 = none) : Bv G (alUp G h a m e2 (ys ++ [q])) b a e2 (ys ++ [q]) pl wy cl (inL ls ys.length l) := by
  have := hB.ins (m := m) (i := ys.length) hq hqy ho (Nat.le_refl _) hn hne he
  rw [List.insertIdx_length_self] at this
  exact this
theorem f_split (hst : (gl G).stackTraces = false) (hd : 18 ≤ d) (h : aH) {x : Nat} {S : Nat → sB} (hC : Cls G h x S) (bill at9 to : Int32) : CT G iX2_split d 15 126 [.ref x, .int bill, .int at9, .int to] h (kM G x h (sp_split S bill at9 to).1 (sp_split S bill at9 to).2) := by
  obtain ⟨q, fb, fa, fe, fx, hA⟩ := id hC
  obtain ⟨hx, hq, hb, hD⟩ := id hA
  unfold sp_split
  refine ct_of (L := [some (.ref x), some (.int bill), some (.int at9), some (.int to), none, none, none, none]) (plainFor_of_name (by decide +kernel)) rfl hst rfl rfl (Nat.le_of_ble_eq_true rfl) ?_
  refine bX2_split_0 (by omega) _ _ _ _ _ ?_
  try simp only [o_iadd, o_isub, o_imul, o_iand, o_ladd, o_lsub, o_lmul, o_land, o_lxor, o_ineg, o_lneg, o_i2l, o_l2i, o_i2f, o_l2d, o_lcmp, o_dcmp, o_fcmp, o_ldiv, o_lrem, o_fdiv, o_ddiv, o_f2d, o_c, o_iload, o_lload, o_fload, o_dload, o_aload, o_istore, o_lstore, o_fstore, o_dstore, o_astore, o_iinc, o_dup, o_pop, o_dupx1, o_dup2, o_dup2l, o_ifeq, o_iceq, o_ifne, o_icne, o_iflt, o_iclt, o_ifge, o_icge, o_ifgt, o_icgt, o_ifle, o_icle, o_at, o_iret, o_lret, o_fret, o_dret, o_zret, o_cret, o_vret, o_aret, o_get, o_put, o_new, o_ald, o_iast, o_last, o_dast, o_aast, o_alen, o_newa, o_cast, o_acmpeq, o_acmpne, o_calls, o_callv, o_calln, o_calli, o_obj, o_throw, o_callh, o_sw, o_acopy, lg, lset1, lset2, lk, aPop, Value.category, List.map_cons, List.map_nil, List.sum_cons, List.sum_nil, Option.toList, List.cons_append, List.nil_append, true_and, and_true, aTFit, if_true, if_false, kV, eq_self, and_self]
  refine ⟨Nat.le_of_ble_eq_true rfl, aKind.mk hx rfl, aCt.mk (c_billAt hst (by omega) h x q _ _ _ bill hx hq) (by decide) (by decide) ?_⟩
  rintro r h1 ⟨⟨i, b, hi, rfl, hbi, rfl⟩ | ⟨hn, rfl⟩, hh⟩
  rotate_left
  · obtain rfl := hh.symm
    rw [spM_no hn]
    exact ⟨rfl, hC, kC2.refl h⟩
  obtain rfl := hh.symm
  obtain rfl := three hi hbi
  obtain ⟨hB, hlen⟩ := hb i hi
  obtain ⟨hb9, hal, hl, hnd, hpl, hwy, hcl, hok⟩ := id hB
  have hn9 := hal.1
  rw [spM_ok hi]
  try simp only [o_iadd, o_isub, o_imul, o_iand, o_ladd, o_lsub, o_lmul, o_land, o_lxor, o_ineg, o_lneg, o_i2l, o_l2i, o_i2f, o_l2d, o_lcmp, o_dcmp, o_fcmp, o_ldiv, o_lrem, o_fdiv, o_ddiv, o_f2d, o_c, o_iload, o_lload, o_fload, o_dload, o_aload, o_istore, o_lstore, o_fstore, o_dstore, o_astore, o_iinc, o_dup, o_pop, o_dupx1, o_dup2, o_dup2l, o_ifeq, o_iceq, o_ifne, o_icne, o_iflt, o_iclt, o_ifge, o_icge, o_ifgt, o_icgt, o_ifle, o_icle, o_at, o_iret, o_lret, o_fret, o_dret, o_zret, o_cret, o_vret, o_aret, o_get, o_put, o_new, o_ald, o_iast, o_last, o_dast, o_aast, o_alen, o_newa, o_cast, o_acmpeq, o_acmpne, o_calls, o_callv, o_calln, o_calli, o_obj, o_throw, o_callh, o_sw, o_acopy, lg, lset1, lset2, lk, aPop, Value.category, List.map_cons, List.map_nil, List.sum_cons, List.sum_nil, Option.toList, List.cons_append, List.nil_append, true_and, and_true, aTFit, if_true, if_false, kV, eq_self, and_self]
  refine bX2_split_5 (by omega) _ _ _ _ _ ?_
  try simp only [o_iadd, o_isub, o_imul, o_iand, o_ladd, o_lsub, o_lmul, o_land, o_lxor, o_ineg, o_lneg, o_i2l, o_l2i, o_i2f, o_l2d, o_lcmp, o_dcmp, o_fcmp, o_ldiv, o_lrem, o_fdiv, o_ddiv, o_f2d, o_c, o_iload, o_lload, o_fload, o_dload, o_aload, o_istore, o_lstore, o_fstore, o_dstore, o_astore, o_iinc, o_dup, o_pop, o_dupx1, o_dup2, o_dup2l, o_ifeq, o_iceq, o_ifne, o_icne, o_iflt, o_iclt, o_ifge, o_icge, o_ifgt, o_icgt, o_ifle, o_icle, o_at, o_iret, o_lret, o_fret, o_dret, o_zret, o_cret, o_vret, o_aret, o_get, o_put, o_new, o_ald, o_iast, o_last, o_dast, o_aast, o_alen, o_newa, o_cast, o_acmpeq, o_acmpne, o_calls, o_callv, o_calln, o_calli, o_obj, o_throw, o_callh, o_sw, o_acopy, lg, lset1, lset2, lk, aPop, Value.category, List.map_cons, List.map_nil, List.sum_cons, List.sum_nil, Option.toList, List.cons_append, List.nil_append, true_and, and_true, aTFit, if_true, if_false, kV, eq_self, and_self]
  refine ⟨Nat.le_of_ble_eq_true rfl, aKind.mk hx rfl, aCt.mk (c_billAt hst (by omega) h x q _ _ _ to hx hq) (by decide) (by decide) ?_⟩
  rintro r h1 ⟨⟨j, b, hj, rfl, hbj, rfl⟩ | ⟨hn, rfl⟩, hh⟩
  rotate_left
  · obtain rfl := hh.symm
    rw [spM_no hn]
    exact ⟨rfl, hC, kC2.refl h⟩
  obtain rfl := hh.symm
  obtain rfl := three hj hbj
  obtain ⟨hB2, hlen2⟩ := hb j hj
  obtain ⟨hb92, hal2, -⟩ := id hB2
  have hn92 := hal2.1
  rw [spM_ok hj]
  have hI := inD_iff (x := at9) (n := (S i).n + 1) (by omega)
  try simp only [o_iadd, o_isub, o_imul, o_iand, o_ladd, o_lsub, o_lmul, o_land, o_lxor, o_ineg, o_lneg, o_i2l, o_l2i, o_i2f, o_l2d, o_lcmp, o_dcmp, o_fcmp, o_ldiv, o_lrem, o_fdiv, o_ddiv, o_f2d, o_c, o_iload, o_lload, o_fload, o_dload, o_aload, o_istore, o_lstore, o_fstore, o_dstore, o_astore, o_iinc, o_dup, o_pop, o_dupx1, o_dup2, o_dup2l, o_ifeq, o_iceq, o_ifne, o_icne, o_iflt, o_iclt, o_ifge, o_icge, o_ifgt, o_icgt, o_ifle, o_icle, o_at, o_iret, o_lret, o_fret, o_dret, o_zret, o_cret, o_vret, o_aret, o_get, o_put, o_new, o_ald, o_iast, o_last, o_dast, o_aast, o_alen, o_newa, o_cast, o_acmpeq, o_acmpne, o_calls, o_callv, o_calln, o_calli, o_obj, o_throw, o_callh, o_sw, o_acopy, lg, lset1, lset2, lk, aPop, Value.category, List.map_cons, List.map_nil, List.sum_cons, List.sum_nil, Option.toList, List.cons_append, List.nil_append, true_and, and_true, aTFit, if_true, if_false, kV, eq_self, and_self]
  refine bX2_split_12 (by omega) _ _ _ _ _ ?_
  try simp only [o_iadd, o_isub, o_imul, o_iand, o_ladd, o_lsub, o_lmul, o_land, o_lxor, o_ineg, o_lneg, o_i2l, o_l2i, o_i2f, o_l2d, o_lcmp, o_dcmp, o_fcmp, o_ldiv, o_lrem, o_fdiv, o_ddiv, o_f2d, o_c, o_iload, o_lload, o_fload, o_dload, o_aload, o_istore, o_lstore, o_fstore, o_dstore, o_astore, o_iinc, o_dup, o_pop, o_dupx1, o_dup2, o_dup2l, o_ifeq, o_iceq, o_ifne, o_icne, o_iflt, o_iclt, o_ifge, o_icge, o_ifgt, o_icgt, o_ifle, o_icle, o_at, o_iret, o_lret, o_fret, o_dret, o_zret, o_cret, o_vret, o_aret, o_get, o_put, o_new, o_ald, o_iast, o_last, o_dast, o_aast, o_alen, o_newa, o_cast, o_acmpeq, o_acmpne, o_calls, o_callv, o_calln, o_calli, o_obj, o_throw, o_callh, o_sw, o_acopy, lg, lset1, lset2, lk, aPop, Value.category, List.map_cons, List.map_nil, List.sum_cons, List.sum_nil, Option.toList, List.cons_append, List.nil_append, true_and, and_true, aTFit, if_true, if_false, kV, eq_self, and_self]
  refine ⟨Nat.le_of_ble_eq_true rfl, aCt.mk (c_checkGap hst (by omega) h hB at9) (by decide) (by decide) ?_⟩
  rw [hlen]
  rintro r h1 ⟨⟨c1, rfl⟩ | ⟨c1, rfl⟩, hh⟩
  rotate_left
  · obtain rfl := hh.symm
    rw [if_neg (fun z => c1 (hI.mpr z))]
    exact ⟨rfl, hC, kC2.refl h⟩
  obtain rfl := hh.symm
  rw [if_pos (hI.mp c1)]
  try simp only [o_iadd, o_isub, o_imul, o_iand, o_ladd, o_lsub, o_lmul, o_land, o_lxor, o_ineg, o_lneg, o_i2l, o_l2i, o_i2f, o_l2d, o_lcmp, o_dcmp, o_fcmp, o_ldiv, o_lrem, o_fdiv, o_ddiv, o_f2d, o_c, o_iload, o_lload, o_fload, o_dload, o_aload, o_istore, o_lstore, o_fstore, o_dstore, o_astore, o_iinc, o_dup, o_pop, o_dupx1, o_dup2, o_dup2l, o_ifeq, o_iceq, o_ifne, o_icne, o_iflt, o_iclt, o_ifge, o_icge, o_ifgt, o_icgt, o_ifle, o_icle, o_at, o_iret, o_lret, o_fret, o_dret, o_zret, o_cret, o_vret, o_aret, o_get, o_put, o_new, o_ald, o_iast, o_last, o_dast, o_aast, o_alen, o_newa, o_cast, o_acmpeq, o_acmpne, o_calls, o_callv, o_calln, o_calli, o_obj, o_throw, o_callh, o_sw, o_acopy, lg, lset1, lset2, lk, aPop, Value.category, List.map_cons, List.map_nil, List.sum_cons, List.sum_nil, Option.toList, List.cons_append, List.nil_append, true_and, and_true, aTFit, if_true, if_false, kV, eq_self, and_self]
  refine bX2_split_20 (by omega) _ _ _ _ _ ?_
  try simp only [o_iadd, o_isub, o_imul, o_iand, o_ladd, o_lsub, o_lmul, o_land, o_lxor, o_ineg, o_lneg, o_i2l, o_l2i, o_i2f, o_l2d, o_lcmp, o_dcmp, o_fcmp, o_ldiv, o_lrem, o_fdiv, o_ddiv, o_f2d, o_c, o_iload, o_lload, o_fload, o_dload, o_aload, o_istore, o_lstore, o_fstore, o_dstore, o_astore, o_iinc, o_dup, o_pop, o_dupx1, o_dup2, o_dup2l, o_ifeq, o_iceq, o_ifne, o_icne, o_iflt, o_iclt, o_ifge, o_icge, o_ifgt, o_icgt, o_ifle, o_icle, o_at, o_iret, o_lret, o_fret, o_dret, o_zret, o_cret, o_vret, o_aret, o_get, o_put, o_new, o_ald, o_iast, o_last, o_dast, o_aast, o_alen, o_newa, o_cast, o_acmpeq, o_acmpne, o_calls, o_callv, o_calln, o_calli, o_obj, o_throw, o_callh, o_sw, o_acopy, lg, lset1, lset2, lk, aPop, Value.category, List.map_cons, List.map_nil, List.sum_cons, List.sum_nil, Option.toList, List.cons_append, List.nil_append, true_and, and_true, aTFit, if_true, if_false, kV, eq_self, and_self]
  have heq : nI i = nI j ↔ i = j := nI_eq (by omega) (by omega)
  refine ⟨fun c => ?_, fun c => ?_⟩
  rotate_left
  · have c9 : nI i = nI j := by first | exact c | exact Decidable.not_not.mp c
    rw [if_neg (fun z => z c9)]
    exact ⟨by decide, by decide, by decide, rfl, hC, kC2.refl h⟩
  rw [if_pos c]
  have hij : i ≠ j := fun z => c (heq.mpr z)
  obtain ⟨a9, ha9, rfl⟩ := c1
  rw [nI_clamp (by omega)]
  obtain ⟨-, ⟨m, ha⟩, -⟩ := id hal
  refine bX2_split_35 (by omega) _ _ _ _ _ ?_
  try simp only [o_iadd, o_isub, o_imul, o_iand, o_ladd, o_lsub, o_lmul, o_land, o_lxor, o_ineg, o_lneg, o_i2l, o_l2i, o_i2f, o_l2d, o_lcmp, o_dcmp, o_fcmp, o_ldiv, o_lrem, o_fdiv, o_ddiv, o_f2d, o_c, o_iload, o_lload, o_fload, o_dload, o_aload, o_istore, o_lstore, o_fstore, o_dstore, o_astore, o_iinc, o_dup, o_pop, o_dupx1, o_dup2, o_dup2l, o_ifeq, o_iceq, o_ifne, o_icne, o_iflt, o_iclt, o_ifge, o_icge, o_ifgt, o_icgt, o_ifle, o_icle, o_at, o_iret, o_lret, o_fret, o_dret, o_zret, o_cret, o_vret, o_aret, o_get, o_put, o_new, o_ald, o_iast, o_last, o_dast, o_aast, o_alen, o_newa, o_cast, o_acmpeq, o_acmpne, o_calls, o_callv, o_calln, o_calli, o_obj, o_throw, o_callh, o_sw, o_acopy, lg, lset1, lset2, lk, aPop, Value.category, List.map_cons, List.map_nil, List.sum_cons, List.sum_nil, Option.toList, List.cons_append, List.nil_append, true_and, and_true, aTFit, if_true, if_false, kV, eq_self, and_self]
  refine aObj.mk hb9 (aVal.mk rfl ⟨Nat.le_of_ble_eq_true rfl, aKind.mk ha rfl, aCt.mk (c_alsize hst (by omega) h _ _ m _ ha) (Nat.zero_le _) (Nat.zero_le _) ?_⟩)
  rintro r h1 ⟨rfl, hh⟩
  obtain rfl := hh.symm
  try simp only [o_iadd, o_isub, o_imul, o_iand, o_ladd, o_lsub, o_lmul, o_land, o_lxor, o_ineg, o_lneg, o_i2l, o_l2i, o_i2f, o_l2d, o_lcmp, o_dcmp, o_fcmp, o_ldiv, o_lrem, o_fdiv, o_ddiv, o_f2d, o_c, o_iload, o_lload, o_fload, o_dload, o_aload, o_istore, o_lstore, o_fstore, o_dstore, o_astore, o_iinc, o_dup, o_pop, o_dupx1, o_dup2, o_dup2l, o_ifeq, o_iceq, o_ifne, o_icne, o_iflt, o_iclt, o_ifge, o_icge, o_ifgt, o_icgt, o_ifle, o_icle, o_at, o_iret, o_lret, o_fret, o_dret, o_zret, o_cret, o_vret, o_aret, o_get, o_put, o_new, o_ald, o_iast, o_last, o_dast, o_aast, o_alen, o_newa, o_cast, o_acmpeq, o_acmpne, o_calls, o_callv, o_calln, o_calli, o_obj, o_throw, o_callh, o_sw, o_acopy, lg, lset1, lset2, lk, aPop, Value.category, List.map_cons, List.map_nil, List.sum_cons, List.sum_nil, Option.toList, List.cons_append, List.nil_append, true_and, and_true, aTFit, if_true, if_false, kV, eq_self, and_self]
  rw [hlen]
  refine bX2_split_43 (by omega) _ _ _ _ _ ?_
  try simp only [o_iadd, o_isub, o_imul, o_iand, o_ladd, o_lsub, o_lmul, o_land, o_lxor, o_ineg, o_lneg, o_i2l, o_l2i, o_i2f, o_l2d, o_lcmp, o_dcmp, o_fcmp, o_ldiv, o_lrem, o_fdiv, o_ddiv, o_f2d, o_c, o_iload, o_lload, o_fload, o_dload, o_aload, o_istore, o_lstore, o_fstore, o_dstore, o_astore, o_iinc, o_dup, o_pop, o_dupx1, o_dup2, o_dup2l, o_ifeq, o_iceq, o_ifne, o_icne, o_iflt, o_iclt, o_ifge, o_icge, o_ifgt, o_icgt, o_ifle, o_icle, o_at, o_iret, o_lret, o_fret, o_dret, o_zret, o_cret, o_vret, o_aret, o_get, o_put, o_new, o_ald, o_iast, o_last, o_dast, o_aast, o_alen, o_newa, o_cast, o_acmpeq, o_acmpne, o_calls, o_callv, o_calln, o_calli, o_obj, o_throw, o_callh, o_sw, o_acopy, lg, lset1, lset2, lk, aPop, Value.category, List.map_cons, List.map_nil, List.sum_cons, List.sum_nil, Option.toList, List.cons_append, List.nil_append, true_and, and_true, aTFit, if_true, if_false, kV, eq_self, and_self]
  rw [nI_sub (by omega)]
  refine ⟨Nat.le_of_ble_eq_true rfl, aCt.mk (c_checkOpen hst (by omega) h hB) (by decide) (by decide) ?_⟩
  rintro r h1 ⟨⟨c3, rfl⟩ | ⟨c3, rfl⟩, hh⟩
  rotate_left
  · obtain rfl := hh.symm
    rw [if_neg c3]
    exact ⟨rfl, hC, kC2.refl h⟩
  obtain rfl := hh.symm
  rw [if_pos c3]
  try simp only [o_iadd, o_isub, o_imul, o_iand, o_ladd, o_lsub, o_lmul, o_land, o_lxor, o_ineg, o_lneg, o_i2l, o_l2i, o_i2f, o_l2d, o_lcmp, o_dcmp, o_fcmp, o_ldiv, o_lrem, o_fdiv, o_ddiv, o_f2d, o_c, o_iload, o_lload, o_fload, o_dload, o_aload, o_istore, o_lstore, o_fstore, o_dstore, o_astore, o_iinc, o_dup, o_pop, o_dupx1, o_dup2, o_dup2l, o_ifeq, o_iceq, o_ifne, o_icne, o_iflt, o_iclt, o_ifge, o_icge, o_ifgt, o_icgt, o_ifle, o_icle, o_at, o_iret, o_lret, o_fret, o_dret, o_zret, o_cret, o_vret, o_aret, o_get, o_put, o_new, o_ald, o_iast, o_last, o_dast, o_aast, o_alen, o_newa, o_cast, o_acmpeq, o_acmpne, o_calls, o_callv, o_calln, o_calli, o_obj, o_throw, o_callh, o_sw, o_acopy, lg, lset1, lset2, lk, aPop, Value.category, List.map_cons, List.map_nil, List.sum_cons, List.sum_nil, Option.toList, List.cons_append, List.nil_append, true_and, and_true, aTFit, if_true, if_false, kV, eq_self, and_self]
  refine bX2_split_52 (by omega) _ _ _ _ _ ?_
  try simp only [o_iadd, o_isub, o_imul, o_iand, o_ladd, o_lsub, o_lmul, o_land, o_lxor, o_ineg, o_lneg, o_i2l, o_l2i, o_i2f, o_l2d, o_lcmp, o_dcmp, o_fcmp, o_ldiv, o_lrem, o_fdiv, o_ddiv, o_f2d, o_c, o_iload, o_lload, o_fload, o_dload, o_aload, o_istore, o_lstore, o_fstore, o_dstore, o_astore, o_iinc, o_dup, o_pop, o_dupx1, o_dup2, o_dup2l, o_ifeq, o_iceq, o_ifne, o_icne, o_iflt, o_iclt, o_ifge, o_icge, o_ifgt, o_icgt, o_ifle, o_icle, o_at, o_iret, o_lret, o_fret, o_dret, o_zret, o_cret, o_vret, o_aret, o_get, o_put, o_new, o_ald, o_iast, o_last, o_dast, o_aast, o_alen, o_newa, o_cast, o_acmpeq, o_acmpne, o_calls, o_callv, o_calln, o_calli, o_obj, o_throw, o_callh, o_sw, o_acopy, lg, lset1, lset2, lk, aPop, Value.category, List.map_cons, List.map_nil, List.sum_cons, List.sum_nil, Option.toList, List.cons_append, List.nil_append, true_and, and_true, aTFit, if_true, if_false, kV, eq_self, and_self]
  refine ⟨Nat.le_of_ble_eq_true rfl, aCt.mk (c_checkOpen hst (by omega) h hB2) (by decide) (by decide) ?_⟩
  rintro r h1 ⟨⟨c4, rfl⟩ | ⟨c4, rfl⟩, hh⟩
  rotate_left
  · obtain rfl := hh.symm
    rw [if_neg c4]
    exact ⟨rfl, hC, kC2.refl h⟩
  obtain rfl := hh.symm
  rw [if_pos c4]
  try simp only [o_iadd, o_isub, o_imul, o_iand, o_ladd, o_lsub, o_lmul, o_land, o_lxor, o_ineg, o_lneg, o_i2l, o_l2i, o_i2f, o_l2d, o_lcmp, o_dcmp, o_fcmp, o_ldiv, o_lrem, o_fdiv, o_ddiv, o_f2d, o_c, o_iload, o_lload, o_fload, o_dload, o_aload, o_istore, o_lstore, o_fstore, o_dstore, o_astore, o_iinc, o_dup, o_pop, o_dupx1, o_dup2, o_dup2l, o_ifeq, o_iceq, o_ifne, o_icne, o_iflt, o_iclt, o_ifge, o_icge, o_ifgt, o_icgt, o_ifle, o_icle, o_at, o_iret, o_lret, o_fret, o_dret, o_zret, o_cret, o_vret, o_aret, o_get, o_put, o_new, o_ald, o_iast, o_last, o_dast, o_aast, o_alen, o_newa, o_cast, o_acmpeq, o_acmpne, o_calls, o_callv, o_calln, o_calli, o_obj, o_throw, o_callh, o_sw, o_acopy, lg, lset1, lset2, lk, aPop, Value.category, List.map_cons, List.map_nil, List.sum_cons, List.sum_nil, Option.toList, List.cons_append, List.nil_append, true_and, and_true, aTFit, if_true, if_false, kV, eq_self, and_self]
  refine bX2_split_57 (by omega) _ _ _ _ _ ?_
  try simp only [o_iadd, o_isub, o_imul, o_iand, o_ladd, o_lsub, o_lmul, o_land, o_lxor, o_ineg, o_lneg, o_i2l, o_l2i, o_i2f, o_l2d, o_lcmp, o_dcmp, o_fcmp, o_ldiv, o_lrem, o_fdiv, o_ddiv, o_f2d, o_c, o_iload, o_lload, o_fload, o_dload, o_aload, o_istore, o_lstore, o_fstore, o_dstore, o_astore, o_iinc, o_dup, o_pop, o_dupx1, o_dup2, o_dup2l, o_ifeq, o_iceq, o_ifne, o_icne, o_iflt, o_iclt, o_ifge, o_icge, o_ifgt, o_icgt, o_ifle, o_icle, o_at, o_iret, o_lret, o_fret, o_dret, o_zret, o_cret, o_vret, o_aret, o_get, o_put, o_new, o_ald, o_iast, o_last, o_dast, o_aast, o_alen, o_newa, o_cast, o_acmpeq, o_acmpne, o_calls, o_callv, o_calln, o_calli, o_obj, o_throw, o_callh, o_sw, o_acopy, lg, lset1, lset2, lk, aPop, Value.category, List.map_cons, List.map_nil, List.sum_cons, List.sum_nil, Option.toList, List.cons_append, List.nil_append, true_and, and_true, aTFit, if_true, if_false, kV, eq_self, and_self]
  refine ⟨Nat.le_of_ble_eq_true rfl, aCt.mk (c_checkRoom hst (by omega) h hB2 ((S i).n - a9) (by omega)) (by decide) (by decide) ?_⟩
  rw [hlen2]
  rintro r h1 ⟨⟨c5, rfl⟩ | ⟨c5, rfl⟩, hh⟩
  rotate_left
  · obtain rfl := hh.symm
    rw [if_neg c5]
    exact ⟨rfl, hC, kC2.refl h⟩
  obtain rfl := hh.symm
  rw [if_pos c5]
  try simp only [o_iadd, o_isub, o_imul, o_iand, o_ladd, o_lsub, o_lmul, o_land, o_lxor, o_ineg, o_lneg, o_i2l, o_l2i, o_i2f, o_l2d, o_lcmp, o_dcmp, o_fcmp, o_ldiv, o_lrem, o_fdiv, o_ddiv, o_f2d, o_c, o_iload, o_lload, o_fload, o_dload, o_aload, o_istore, o_lstore, o_fstore, o_dstore, o_astore, o_iinc, o_dup, o_pop, o_dupx1, o_dup2, o_dup2l, o_ifeq, o_iceq, o_ifne, o_icne, o_iflt, o_iclt, o_ifge, o_icge, o_ifgt, o_icgt, o_ifle, o_icle, o_at, o_iret, o_lret, o_fret, o_dret, o_zret, o_cret, o_vret, o_aret, o_get, o_put, o_new, o_ald, o_iast, o_last, o_dast, o_aast, o_alen, o_newa, o_cast, o_acmpeq, o_acmpne, o_calls, o_callv, o_calln, o_calli, o_obj, o_throw, o_callh, o_sw, o_acopy, lg, lset1, lset2, lk, aPop, Value.category, List.map_cons, List.map_nil, List.sum_cons, List.sum_nil, Option.toList, List.cons_append, List.nil_append, true_and, and_true, aTFit, if_true, if_false, kV, eq_self, and_self]
  refine bX2_split_64 (by omega) _ _ _ _ _ ?_
  try simp only [o_iadd, o_isub, o_imul, o_iand, o_ladd, o_lsub, o_lmul, o_land, o_lxor, o_ineg, o_lneg, o_i2l, o_l2i, o_i2f, o_l2d, o_lcmp, o_dcmp, o_fcmp, o_ldiv, o_lrem, o_fdiv, o_ddiv, o_f2d, o_c, o_iload, o_lload, o_fload, o_dload, o_aload, o_istore, o_lstore, o_fstore, o_dstore, o_astore, o_iinc, o_dup, o_pop, o_dupx1, o_dup2, o_dup2l, o_ifeq, o_iceq, o_ifne, o_icne, o_iflt, o_iclt, o_ifge, o_icge, o_ifgt, o_icgt, o_ifle, o_icle, o_at, o_iret, o_lret, o_fret, o_dret, o_zret, o_cret, o_vret, o_aret, o_get, o_put, o_new, o_ald, o_iast, o_last, o_dast, o_aast, o_alen, o_newa, o_cast, o_acmpeq, o_acmpne, o_calls, o_callv, o_calln, o_calli, o_obj, o_throw, o_callh, o_sw, o_acopy, lg, lset1, lset2, lk, aPop, Value.category, List.map_cons, List.map_nil, List.sum_cons, List.sum_nil, Option.toList, List.cons_append, List.nil_append, true_and, and_true, aTFit, if_true, if_false, kV, eq_self, and_self]
  suffices H : ∀ (v u : Nat), u + v = (S i).n - a9 → aSo G iX2_split d _ _ _ (fun kc ks L st h1 => L = [some (.ref x), some (.int (nI i)), some (.int (nI a9)), some (.int (nI j)), some (.ref (fb i)), some (.ref (fb j)), some (.int (nI ((S i).n - a9))), some (.int (nI u))] ∧ st = [] ∧ v ≤ kc ∧ 10 * v ≤ ks ∧ (∃ fe fx, ClsA G h1 x q fb fa fe fx (splS S i j a9 u)) ∧ kC2 h h1) 67 by
    refine H ((S i).n - a9) 0 (by omega) _ _ _ _ _ ⟨rfl, rfl, by omega, by omega, ⟨fe, fx, hA.congr fun k hk => ?_⟩, kC2.refl h⟩
    by_cases e1 : k = j
    · subst e1
      rw [splS_j]
      exact ⟨rfl, rfl, rfl, rfl, fun p hp => (if_pos hp).symm⟩
    · by_cases e2 : k = i
      · subst e2
        rw [splS_i S _ _ hij]
        refine ⟨rfl, rfl, rfl, rfl, fun p hp => ?_⟩
        show _ = if p < a9 then _ else _
        split <;> rfl
      · rw [splS_o S _ _ e2 e1]
        exact ⟨rfl, rfl, rfl, rfl, fun _ _ => rfl⟩
  intro v
  induction v with
  | zero =>
    rintro u hu kc ks L st h1 ⟨rfl, rfl, -, -, ⟨fe1, fx1, hA1⟩, hk1⟩
    obtain rfl : u = (S i).n - a9 := by omega
    obtain ⟨hB3, hlen3⟩ := hA1.2.2.1 j hj
    have hn3 : (splS S i j a9 ((S i).n - a9) j).n = (S j).n + ((S i).n - a9) := by rw [splS_j]
    obtain ⟨-, ⟨m1, ha1⟩, -⟩ := id hB3.2.1
    refine bX2_split_67 (by omega) _ _ _ _ _ ?_
    try simp only [o_iadd, o_isub, o_imul, o_iand, o_ladd, o_lsub, o_lmul, o_land, o_lxor, o_ineg, o_lneg, o_i2l, o_l2i, o_i2f, o_l2d, o_lcmp, o_dcmp, o_fcmp, o_ldiv, o_lrem, o_fdiv, o_ddiv, o_f2d, o_c, o_iload, o_lload, o_fload, o_dload, o_aload, o_istore, o_lstore, o_fstore, o_dstore, o_astore, o_iinc, o_dup, o_pop, o_dupx1, o_dup2, o_dup2l, o_ifeq, o_iceq, o_ifne, o_icne, o_iflt, o_iclt, o_ifge, o_icge, o_ifgt, o_icgt, o_ifle, o_icle, o_at, o_iret, o_lret, o_fret, o_dret, o_zret, o_cret, o_vret, o_aret, o_get, o_put, o_new, o_ald, o_iast, o_last, o_dast, o_aast, o_alen, o_newa, o_cast, o_acmpeq, o_acmpne, o_calls, o_callv, o_calln, o_calli, o_obj, o_throw, o_callh, o_sw, o_acopy, lg, lset1, lset2, lk, aPop, Value.category, List.map_cons, List.map_nil, List.sum_cons, List.sum_nil, Option.toList, List.cons_append, List.nil_append, true_and, and_true, aTFit, if_true, if_false, kV, eq_self, and_self]
    refine ⟨fun _ => ?_, fun c => absurd (nI_le (Nat.le_refl _) (by omega)) c⟩
    refine bX2_split_101 (by omega) _ _ _ _ _ ?_
    try simp only [o_iadd, o_isub, o_imul, o_iand, o_ladd, o_lsub, o_lmul, o_land, o_lxor, o_ineg, o_lneg, o_i2l, o_l2i, o_i2f, o_l2d, o_lcmp, o_dcmp, o_fcmp, o_ldiv, o_lrem, o_fdiv, o_ddiv, o_f2d, o_c, o_iload, o_lload, o_fload, o_dload, o_aload, o_istore, o_lstore, o_fstore, o_dstore, o_astore, o_iinc, o_dup, o_pop, o_dupx1, o_dup2, o_dup2l, o_ifeq, o_iceq, o_ifne, o_icne, o_iflt, o_iclt, o_ifge, o_icge, o_ifgt, o_icgt, o_ifle, o_icle, o_at, o_iret, o_lret, o_fret, o_dret, o_zret, o_cret, o_vret, o_aret, o_get, o_put, o_new, o_ald, o_iast, o_last, o_dast, o_aast, o_alen, o_newa, o_cast, o_acmpeq, o_acmpne, o_calls, o_callv, o_calln, o_calli, o_obj, o_throw, o_callh, o_sw, o_acopy, lg, lset1, lset2, lk, aPop, Value.category, List.map_cons, List.map_nil, List.sum_cons, List.sum_nil, Option.toList, List.cons_append, List.nil_append, true_and, and_true, aTFit, if_true, if_false, kV, eq_self, and_self]
    refine aObj.mk hB3.1 (aVal.mk rfl ⟨Nat.le_of_ble_eq_true rfl, aKind.mk ha1 rfl, aCt.mk (c_alsize hst (by omega) h1 _ _ m1 _ ha1) (Nat.zero_le _) (Nat.zero_le _) ?_⟩)
    rintro r h2 ⟨rfl, hh⟩
    obtain rfl := hh.symm
    try simp only [o_iadd, o_isub, o_imul, o_iand, o_ladd, o_lsub, o_lmul, o_land, o_lxor, o_ineg, o_lneg, o_i2l, o_l2i, o_i2f, o_l2d, o_lcmp, o_dcmp, o_fcmp, o_ldiv, o_lrem, o_fdiv, o_ddiv, o_f2d, o_c, o_iload, o_lload, o_fload, o_dload, o_aload, o_istore, o_lstore, o_fstore, o_dstore, o_astore, o_iinc, o_dup, o_pop, o_dupx1, o_dup2, o_dup2l, o_ifeq, o_iceq, o_ifne, o_icne, o_iflt, o_iclt, o_ifge, o_icge, o_ifgt, o_icgt, o_ifle, o_icle, o_at, o_iret, o_lret, o_fret, o_dret, o_zret, o_cret, o_vret, o_aret, o_get, o_put, o_new, o_ald, o_iast, o_last, o_dast, o_aast, o_alen, o_newa, o_cast, o_acmpeq, o_acmpne, o_calls, o_callv, o_calln, o_calli, o_obj, o_throw, o_callh, o_sw, o_acopy, lg, lset1, lset2, lk, aPop, Value.category, List.map_cons, List.map_nil, List.sum_cons, List.sum_nil, Option.toList, List.cons_append, List.nil_append, true_and, and_true, aTFit, if_true, if_false, kV, eq_self, and_self]
    refine bX2_split_109 (by omega) _ _ _ _ _ ?_
    try simp only [o_iadd, o_isub, o_imul, o_iand, o_ladd, o_lsub, o_lmul, o_land, o_lxor, o_ineg, o_lneg, o_i2l, o_l2i, o_i2f, o_l2d, o_lcmp, o_dcmp, o_fcmp, o_ldiv, o_lrem, o_fdiv, o_ddiv, o_f2d, o_c, o_iload, o_lload, o_fload, o_dload, o_aload, o_istore, o_lstore, o_fstore, o_dstore, o_astore, o_iinc, o_dup, o_pop, o_dupx1, o_dup2, o_dup2l, o_ifeq, o_iceq, o_ifne, o_icne, o_iflt, o_iclt, o_ifge, o_icge, o_ifgt, o_icgt, o_ifle, o_icle, o_at, o_iret, o_lret, o_fret, o_dret, o_zret, o_cret, o_vret, o_aret, o_get, o_put, o_new, o_ald, o_iast, o_last, o_dast, o_aast, o_alen, o_newa, o_cast, o_acmpeq, o_acmpne, o_calls, o_callv, o_calln, o_calli, o_obj, o_throw, o_callh, o_sw, o_acopy, lg, lset1, lset2, lk, aPop, Value.category, List.map_cons, List.map_nil, List.sum_cons, List.sum_nil, Option.toList, List.cons_append, List.nil_append, true_and, and_true, aTFit, if_true, if_false, kV, eq_self, and_self]
    rw [hlen3, hn3]
    exact ⟨rfl, ⟨q, fb, fa, fe1, fx1, hA1⟩, hk1⟩
  | succ v ih =>
    rintro u hu kc ks L st h1 ⟨rfl, rfl, hkc, hks, ⟨fe1, fx1, hA1⟩, hk1⟩
    obtain ⟨hB3, hlen3⟩ := hA1.2.2.1 i hi
    obtain ⟨hB4, hlen4⟩ := hA1.2.2.1 j hj
    have hSi : splS S i j a9 u i = (S i).srcN a9 u := splS_i S _ _ hij
    have hSj : splS S i j a9 u j = (S j).tgtN (S i) a9 u := splS_j S _ _ _ _
    rw [hSi] at hB3 hlen3
    rw [hSj] at hB4 hlen4
    have hlen3 : (fx1 i).length = (S i).n - u := hlen3
    have hlen4 : (fx1 j).length = (S j).n + u := hlen4
    obtain ⟨-, ⟨m1, ha1⟩, -⟩ := id hB3.2.1
    have hax : a9 < (fx1 i).length := by omega
    obtain ⟨hb3, -, hl3, hnd3, -, -, -, hok3⟩ := id hB3
    refine bX2_split_67 (by omega) _ _ _ _ _ ?_
    try simp only [o_iadd, o_isub, o_imul, o_iand, o_ladd, o_lsub, o_lmul, o_land, o_lxor, o_ineg, o_lneg, o_i2l, o_l2i, o_i2f, o_l2d, o_lcmp, o_dcmp, o_fcmp, o_ldiv, o_lrem, o_fdiv, o_ddiv, o_f2d, o_c, o_iload, o_lload, o_fload, o_dload, o_aload, o_istore, o_lstore, o_fstore, o_dstore, o_astore, o_iinc, o_dup, o_pop, o_dupx1, o_dup2, o_dup2l, o_ifeq, o_iceq, o_ifne, o_icne, o_iflt, o_iclt, o_ifge, o_icge, o_ifgt, o_icgt, o_ifle, o_icle, o_at, o_iret, o_lret, o_fret, o_dret, o_zret, o_cret, o_vret, o_aret, o_get, o_put, o_new, o_ald, o_iast, o_last, o_dast, o_aast, o_alen, o_newa, o_cast, o_acmpeq, o_acmpne, o_calls, o_callv, o_calln, o_calli, o_obj, o_throw, o_callh, o_sw, o_acopy, lg, lset1, lset2, lk, aPop, Value.category, List.map_cons, List.map_nil, List.sum_cons, List.sum_nil, Option.toList, List.cons_append, List.nil_append, true_and, and_true, aTFit, if_true, if_false, kV, eq_self, and_self]
    refine ⟨fun c => absurd c (nI_ge (by omega) (by omega)), fun _ => ?_⟩
    refine aObj.mk hB4.1 (aVal.mk rfl ?_)
    try simp only [o_iadd, o_isub, o_imul, o_iand, o_ladd, o_lsub, o_lmul, o_land, o_lxor, o_ineg, o_lneg, o_i2l, o_l2i, o_i2f, o_l2d, o_lcmp, o_dcmp, o_fcmp, o_ldiv, o_lrem, o_fdiv, o_ddiv, o_f2d, o_c, o_iload, o_lload, o_fload, o_dload, o_aload, o_istore, o_lstore, o_fstore, o_dstore, o_astore, o_iinc, o_dup, o_pop, o_dupx1, o_dup2, o_dup2l, o_ifeq, o_iceq, o_ifne, o_icne, o_iflt, o_iclt, o_ifge, o_icge, o_ifgt, o_icgt, o_ifle, o_icle, o_at, o_iret, o_lret, o_fret, o_dret, o_zret, o_cret, o_vret, o_aret, o_get, o_put, o_new, o_ald, o_iast, o_last, o_dast, o_aast, o_alen, o_newa, o_cast, o_acmpeq, o_acmpne, o_calls, o_callv, o_calln, o_calli, o_obj, o_throw, o_callh, o_sw, o_acopy, lg, lset1, lset2, lk, aPop, Value.category, List.map_cons, List.map_nil, List.sum_cons, List.sum_nil, Option.toList, List.cons_append, List.nil_append, true_and, and_true, aTFit, if_true, if_false, kV, eq_self, and_self]
    refine aObj.mk hB3.1 (aVal.mk rfl ⟨Nat.le_of_ble_eq_true rfl, aKind.mk ha1 rfl, aCt.mk (c_alrem hst (by omega) h1 _ _ a9 _ hB3.2.1 hax hB3.lineK) (Nat.zero_le _) (Nat.zero_le _) ?_⟩)
    rintro r h2 ⟨m', rfl, rfl, hne⟩
    have hE := hB3.erase (m := m') (i := a9) hax hne
    have hlenE : ((fx1 i).eraseIdx a9).length = (S i).n - (u + 1) := by rw [List.length_eraseIdx_of_lt hax, hlen3]; omega
    obtain ⟨⟨vb, kb⟩, ⟨va, ka⟩, ⟨k9, ve, ke, hk9⟩, kx⟩ := hB3.kinds
    have hlx := hl3 a9 hax
    have hlx1 : alUp G h1 (fa i) m' (fe1 i) ((fx1 i).eraseIdx a9) ((fx1 i)[a9]) = some (2, lnV (((S i).srcN a9 u).ls a9)) := by
      refine (alUp_ne (kd_ne hlx ka (by decide)) (Or.inl (kd_ne hlx ke ?_))).trans hlx
      rcases hk9 with rfl | rfl <;> decide
    have hF1 := Fr.list (G := G) (h := h1) (b := fb i) (a := fa i) (e := fe1 i) (e2 := fe1 i) (xs := fx1 i) (ys := (fx1 i).eraseIdx a9) (m := m') (Or.inl rfl)
    obtain ⟨fe2, fx2, hA2, hk2, hxi⟩ : ∃ fe2 fx2, ClsA G (alUp G h1 (fa i) m' (fe1 i) ((fx1 i).eraseIdx a9)) x q fb fa fe2 fx2 (upS (splS S i j a9 u) i ((S i).pl, (S i).wy, (S i).cl, (S i).n - (u + 1), erL ((S i).srcN a9 u).ls a9)) ∧ (∀ k, k ≠ i → fx2 k = fx1 k) ∧ fx2 i = (fx1 i).eraseIdx a9 :=
      ⟨_, _, hA1.updW hi hF1 ⟨hE, hlenE⟩ (fun k hk hne => ⟨(hA1.2.2.2 k hk i hi hne).2.2.1, fun y hy => (hA1.2.2.2 k hk i hi hne).2.2.2 y ((List.eraseIdx_sublist _ _).subset hy)⟩), fun k hk => if_neg hk, if_pos rfl⟩
    have hji : ¬ j = i := Ne.symm hij
    obtain ⟨hB5, hlen5⟩ := hA2.2.2.1 j hj
    have hS5 : upS (splS S i j a9 u) i ((S i).pl, (S i).wy, (S i).cl, (S i).n - (u + 1), erL ((S i).srcN a9 u).ls a9) j = (S j).tgtN (S i) a9 u := by
      rw [← hSj]
      exact if_neg hji
    rw [hS5] at hB5 hlen5
    have hlen5 : (fx2 j).length = (S j).n + u := hlen5
    obtain ⟨-, ⟨m5, ha5⟩, -⟩ := id hB5.2.1
    try simp only [o_iadd, o_isub, o_imul, o_iand, o_ladd, o_lsub, o_lmul, o_land, o_lxor, o_ineg, o_lneg, o_i2l, o_l2i, o_i2f, o_l2d, o_lcmp, o_dcmp, o_fcmp, o_ldiv, o_lrem, o_fdiv, o_ddiv, o_f2d, o_c, o_iload, o_lload, o_fload, o_dload, o_aload, o_istore, o_lstore, o_fstore, o_dstore, o_astore, o_iinc, o_dup, o_pop, o_dupx1, o_dup2, o_dup2l, o_ifeq, o_iceq, o_ifne, o_icne, o_iflt, o_iclt, o_ifge, o_icge, o_ifgt, o_icgt, o_ifle, o_icle, o_at, o_iret, o_lret, o_fret, o_dret, o_zret, o_cret, o_vret, o_aret, o_get, o_put, o_new, o_ald, o_iast, o_last, o_dast, o_aast, o_alen, o_newa, o_cast, o_acmpeq, o_acmpne, o_calls, o_callv, o_calln, o_calli, o_obj, o_throw, o_callh, o_sw, o_acopy, lg, lset1, lset2, lk, aPop, Value.category, List.map_cons, List.map_nil, List.sum_cons, List.sum_nil, Option.toList, List.cons_append, List.nil_append, true_and, and_true, aTFit, if_true, if_false, kV, eq_self, and_self]
    refine bX2_split_88 (by omega) _ _ _ _ _ ?_
    try simp only [o_iadd, o_isub, o_imul, o_iand, o_ladd, o_lsub, o_lmul, o_land, o_lxor, o_ineg, o_lneg, o_i2l, o_l2i, o_i2f, o_l2d, o_lcmp, o_dcmp, o_fcmp, o_ldiv, o_lrem, o_fdiv, o_ddiv, o_f2d, o_c, o_iload, o_lload, o_fload, o_dload, o_aload, o_istore, o_lstore, o_fstore, o_dstore, o_astore, o_iinc, o_dup, o_pop, o_dupx1, o_dup2, o_dup2l, o_ifeq, o_iceq, o_ifne, o_icne, o_iflt, o_iclt, o_ifge, o_icge, o_ifgt, o_icgt, o_ifle, o_icle, o_at, o_iret, o_lret, o_fret, o_dret, o_zret, o_cret, o_vret, o_aret, o_get, o_put, o_new, o_ald, o_iast, o_last, o_dast, o_aast, o_alen, o_newa, o_cast, o_acmpeq, o_acmpne, o_calls, o_callv, o_calln, o_calli, o_obj, o_throw, o_callh, o_sw, o_acopy, lg, lset1, lset2, lk, aPop, Value.category, List.map_cons, List.map_nil, List.sum_cons, List.sum_nil, Option.toList, List.cons_append, List.nil_append, true_and, and_true, aTFit, if_true, if_false, kV, eq_self, and_self]
    refine aKind.mk hlx1 ⟨rfl, ?_⟩
    refine ⟨Nat.le_of_ble_eq_true rfl, aKind.mk ha5 rfl, aCt.mk (c_aladd hst (by omega) _ _ _ ((fx1 i)[a9]) _ hB5.2.1 (by omega) (aKind.mk hlx1 rfl)) (by omega) (by omega) ?_⟩
    rintro r h4 ⟨m2, e', rfl, rfl, hne2, he2⟩
    have hwj : (fx1 i)[a9] ∉ fx2 j := by
      rw [hk2 j hji]
      exact (hA1.2.2.2 j hj i hi hji).2.2.2 _ (List.getElem_mem hax)
    have hB6 := hB5.app (m := m2) (q := (fx1 i)[a9]) hlx1 hwj (hok3 a9 hax) (by omega) hne2 he2
    have hlen6 : (fx2 j ++ [(fx1 i)[a9]]).length = (S j).n + u + 1 := by rw [List.length_append, hlen5]; rfl
    have hF2 := Fr.list (G := G) (h := alUp G h1 (fa i) m' (fe1 i) ((fx1 i).eraseIdx a9)) (b := fb j) (a := fa j) (e := fe2 j) (e2 := e') (xs := fx2 j) (ys := fx2 j ++ [(fx1 i)[a9]]) (m := m2) he2
    have hA3 := hA2.updW hj hF2 (B := ((S j).pl, (S j).wy, (S j).cl, (S j).n + u + 1, inL ((S j).tgtN (S i) a9 u).ls (fx2 j).length (((S i).srcN a9 u).ls a9))) ⟨hB6, hlen6⟩ (fun k hk hne => by
      refine ⟨?_, fun y hy => ?_⟩
      · rcases he2 with z | z
        · rw [z]; exact (hA2.2.2.2 k hk j hj hne).2.2.1
        · obtain ⟨-, -, ⟨k8, v8, ke8, -⟩, -⟩ := (hA2.2.2.1 k hk).1.kinds
          exact Or.inl (fr_ne ke8 z).symm
      · rcases List.mem_append.mp hy with z | z
        · exact (hA2.2.2.2 k hk j hj hne).2.2.2 y z
        · rw [List.mem_singleton.mp z]
          by_cases e : k = i
          · subst e
            rw [hxi]
            exact er_not hnd3 hax
          · rw [hk2 k e]
            exact (hA1.2.2.2 k hk i hi e).2.2.2 _ (List.getElem_mem hax))
    try simp only [o_iadd, o_isub, o_imul, o_iand, o_ladd, o_lsub, o_lmul, o_land, o_lxor, o_ineg, o_lneg, o_i2l, o_l2i, o_i2f, o_l2d, o_lcmp, o_dcmp, o_fcmp, o_ldiv, o_lrem, o_fdiv, o_ddiv, o_f2d, o_c, o_iload, o_lload, o_fload, o_dload, o_aload, o_istore, o_lstore, o_fstore, o_dstore, o_astore, o_iinc, o_dup, o_pop, o_dupx1, o_dup2, o_dup2l, o_ifeq, o_iceq, o_ifne, o_icne, o_iflt, o_iclt, o_ifge, o_icge, o_ifgt, o_icgt, o_ifle, o_icle, o_at, o_iret, o_lret, o_fret, o_dret, o_zret, o_cret, o_vret, o_aret, o_get, o_put, o_new, o_ald, o_iast, o_last, o_dast, o_aast, o_alen, o_newa, o_cast, o_acmpeq, o_acmpne, o_calls, o_callv, o_calln, o_calli, o_obj, o_throw, o_callh, o_sw, o_acopy, lg, lset1, lset2, lk, aPop, Value.category, List.map_cons, List.map_nil, List.sum_cons, List.sum_nil, Option.toList, List.cons_append, List.nil_append, true_and, and_true, aTFit, if_true, if_false, kV, eq_self, and_self]
    refine bX2_split_94 (by omega) _ _ _ _ _ ?_
    try simp only [o_iadd, o_isub, o_imul, o_iand, o_ladd, o_lsub, o_lmul, o_land, o_lxor, o_ineg, o_lneg, o_i2l, o_l2i, o_i2f, o_l2d, o_lcmp, o_dcmp, o_fcmp, o_ldiv, o_lrem, o_fdiv, o_ddiv, o_f2d, o_c, o_iload, o_lload, o_fload, o_dload, o_aload, o_istore, o_lstore, o_fstore, o_dstore, o_astore, o_iinc, o_dup, o_pop, o_dupx1, o_dup2, o_dup2l, o_ifeq, o_iceq, o_ifne, o_icne, o_iflt, o_iclt, o_ifge, o_icge, o_ifgt, o_icgt, o_ifle, o_icle, o_at, o_iret, o_lret, o_fret, o_dret, o_zret, o_cret, o_vret, o_aret, o_get, o_put, o_new, o_ald, o_iast, o_last, o_dast, o_aast, o_alen, o_newa, o_cast, o_acmpeq, o_acmpne, o_calls, o_callv, o_calln, o_calli, o_obj, o_throw, o_callh, o_sw, o_acopy, lg, lset1, lset2, lk, aPop, Value.category, List.map_cons, List.map_nil, List.sum_cons, List.sum_nil, Option.toList, List.cons_append, List.nil_append, true_and, and_true, aTFit, if_true, if_false, kV, eq_self, and_self]
    rw [nI_1]
    refine ih (u + 1) (by omega) _ _ _ _ _ ⟨rfl, rfl, by omega, by omega, ⟨_, _, hA3.congr fun k hk => ?_⟩, hk1.trans ((hF1.kC2 hB3).trans (hF2.kC2 hB5))⟩
    by_cases e1 : k = j
    · subst e1
      rw [upS_eq, splS_j]
      refine ⟨rfl, rfl, rfl, by show (S k).n + u + 1 = (S k).n + (u + 1); omega, fun p hp => ?_⟩
      have hp : p < (S k).n + u + 1 := hp
      show (if p < (fx2 k).length then ((S k).tgtN (S i) a9 u).ls p else if p = (fx2 k).length then ((S i).srcN a9 u).ls a9 else _) = if p < (S k).n then (S k).ls p else (S i).ls (a9 + (p - (S k).n))
      rw [hlen5]
      by_cases c1 : p < (S k).n + u
      · rw [if_pos c1]
      · obtain rfl : p = (S k).n + u := by omega
        rw [if_neg c1, if_pos rfl]
        show (if a9 < a9 then (S i).ls a9 else (S i).ls (a9 + u)) = _
        rw [if_neg (Nat.lt_irrefl _)]
        by_cases c2 : (S k).n + u < (S k).n
        · omega
        · rw [if_neg c2]
          congr 1
          omega
    · rw [upS_ne _ _ e1]
      by_cases e2 : k = i
      · subst e2
        rw [upS_eq, splS_i S _ _ hij]
        refine ⟨rfl, rfl, rfl, rfl, fun p hp => ?_⟩
        show (if p < a9 then (if p < a9 then (S k).ls p else (S k).ls (p + u)) else (if p + 1 < a9 then (S k).ls (p + 1) else (S k).ls (p + 1 + u))) = if p < a9 then (S k).ls p else (S k).ls (p + (u + 1))
        by_cases c1 : p < a9
        · rw [if_pos c1, if_pos c1, if_pos c1]
        · rw [if_neg c1, if_neg c1, if_neg (by omega)]
          congr 1
          omega
      · rw [upS_ne _ _ e2, splS_o S _ _ e2 e1, splS_o S _ _ e2 e1]
        exact ⟨rfl, rfl, rfl, rfl, fun _ _ => rfl⟩
end Face16
