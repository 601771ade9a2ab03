/-! line -/
section Face13
variable {G : gG} {d : Nat}
abbrev okPD (p g c : Int32) : Prop := Rng p (-99999) 99999 ∧ InD g 5 ∧ Rng c (-99) 99
theorem okP_iff (p g c : Int32) : okPrice p g c ↔ okPD p g c := by
  unfold okPrice okPD
  rw [inD_iff (by decide)]
def sp_line (S : Nat → sB) (bill at9 p g c : Int32) : aR × (Nat → sB) := spM S bill fun i B => if InD at9 (B.n + 1) then (if okPD p g c then (if B.cl = 0 then (if B.n + 1 ≤ 9 then (aInt (B.n + 1), upS S i (B.pl, B.wy, B.cl, B.n + 1, inL B.ls at9.toNatClampNeg (p, g.toNatClampNeg, c, 0, 0))) else (.inr eIS, S)) else (.inr eIS, S)) else (.inr eIA, S)) else (.inr eIO, S)
theorem f_line (hst : (gl G).stackTraces = false) (hd : 18 ≤ d) (h : aH) {x : Nat} {S : Nat → sB} (hC : Cls G h x S) (bill at9 p g c : Int32) : CT G iX2_line d 7 47 [.ref x, .int bill, .int at9, .int p, .int g, .int c] h (kM G x h (sp_line S bill at9 p g c).1 (sp_line S bill at9 p g c).2) := by
  obtain ⟨q, fb, fa, fe, fx, hA⟩ := id hC
  obtain ⟨hx, hq, hb, hD⟩ := id hA
  unfold sp_line
  refine ct_of (L := [some (.ref x), some (.int bill), some (.int at9), some (.int p), some (.int g), some (.int c), none]) (plainFor_of_name (by decide +kernel)) rfl hst rfl rfl (Nat.le_of_ble_eq_true rfl) ?_
  refine bX2_line_0 (by omega) _ _ _ _ _ ?_
  try simp only [o_iadd, o_isub, o_imul, o_iand, o_ladd, o_lsub, o_lmul, o_land, o_lxor, o_ineg, o_lneg, o_i2l, o_l2i, o_i2f, o_l2d, o_lcmp, o_dcmp, o_fcmp, o_ldiv, o_lrem, o_fdiv, o_ddiv, o_f2d, o_c, o_iload, o_lload, o_fload, o_dload, o_aload, o_istore, o_lstore, o_fstore, o_dstore, o_astore, o_iinc, o_dup, o_pop, o_dupx1, o_dup2, o_dup2l, o_ifeq, o_iceq, o_ifne, o_icne, o_iflt, o_iclt, o_ifge, o_icge, o_ifgt, o_icgt, o_ifle, o_icle, o_at, o_iret, o_lret, o_fret, o_dret, o_zret, o_cret, o_vret, o_aret, o_get, o_put, o_new, o_ald, o_iast, o_last, o_dast, o_aast, o_alen, o_newa, o_cast, o_acmpeq, o_acmpne, o_calls, o_callv, o_calln, o_calli, o_obj, o_throw, o_callh, o_sw, o_acopy, lg, lset1, lset2, lk, aPop, Value.category, List.map_cons, List.map_nil, List.sum_cons, List.sum_nil, Option.toList, List.cons_append, List.nil_append, true_and, and_true, aTFit, if_true, if_false, kV, eq_self, and_self]
  refine ⟨Nat.le_of_ble_eq_true rfl, aKind.mk hx rfl, aCt.mk (c_billAt hst (by omega) h x q _ _ _ bill hx hq) (by decide) (by decide) ?_⟩
  rintro r h1 ⟨⟨i, b, hi, rfl, hbi, rfl⟩ | ⟨hn, rfl⟩, hh⟩
  rotate_left
  · obtain rfl := hh.symm
    rw [spM_no hn]
    exact ⟨rfl, hC, kC2.refl h⟩
  obtain rfl := hh.symm
  obtain rfl := three hi hbi
  obtain ⟨hB, hlen⟩ := hb i hi
  obtain ⟨hb9, hal, hl, hnd, hpl, hwy, hcl, hok⟩ := id hB
  rw [spM_ok hi]
  have hn9 := hal.1
  have hI := inD_iff (x := at9) (n := (S i).n + 1) (by omega)
  try simp only [o_iadd, o_isub, o_imul, o_iand, o_ladd, o_lsub, o_lmul, o_land, o_lxor, o_ineg, o_lneg, o_i2l, o_l2i, o_i2f, o_l2d, o_lcmp, o_dcmp, o_fcmp, o_ldiv, o_lrem, o_fdiv, o_ddiv, o_f2d, o_c, o_iload, o_lload, o_fload, o_dload, o_aload, o_istore, o_lstore, o_fstore, o_dstore, o_astore, o_iinc, o_dup, o_pop, o_dupx1, o_dup2, o_dup2l, o_ifeq, o_iceq, o_ifne, o_icne, o_iflt, o_iclt, o_ifge, o_icge, o_ifgt, o_icgt, o_ifle, o_icle, o_at, o_iret, o_lret, o_fret, o_dret, o_zret, o_cret, o_vret, o_aret, o_get, o_put, o_new, o_ald, o_iast, o_last, o_dast, o_aast, o_alen, o_newa, o_cast, o_acmpeq, o_acmpne, o_calls, o_callv, o_calln, o_calli, o_obj, o_throw, o_callh, o_sw, o_acopy, lg, lset1, lset2, lk, aPop, Value.category, List.map_cons, List.map_nil, List.sum_cons, List.sum_nil, Option.toList, List.cons_append, List.nil_append, true_and, and_true, aTFit, if_true, if_false, kV, eq_self, and_self]
  refine bX2_line_5 (by omega) _ _ _ _ _ ?_
  try simp only [o_iadd, o_isub, o_imul, o_iand, o_ladd, o_lsub, o_lmul, o_land, o_lxor, o_ineg, o_lneg, o_i2l, o_l2i, o_i2f, o_l2d, o_lcmp, o_dcmp, o_fcmp, o_ldiv, o_lrem, o_fdiv, o_ddiv, o_f2d, o_c, o_iload, o_lload, o_fload, o_dload, o_aload, o_istore, o_lstore, o_fstore, o_dstore, o_astore, o_iinc, o_dup, o_pop, o_dupx1, o_dup2, o_dup2l, o_ifeq, o_iceq, o_ifne, o_icne, o_iflt, o_iclt, o_ifge, o_icge, o_ifgt, o_icgt, o_ifle, o_icle, o_at, o_iret, o_lret, o_fret, o_dret, o_zret, o_cret, o_vret, o_aret, o_get, o_put, o_new, o_ald, o_iast, o_last, o_dast, o_aast, o_alen, o_newa, o_cast, o_acmpeq, o_acmpne, o_calls, o_callv, o_calln, o_calli, o_obj, o_throw, o_callh, o_sw, o_acopy, lg, lset1, lset2, lk, aPop, Value.category, List.map_cons, List.map_nil, List.sum_cons, List.sum_nil, Option.toList, List.cons_append, List.nil_append, true_and, and_true, aTFit, if_true, if_false, kV, eq_self, and_self]
  refine ⟨Nat.le_of_ble_eq_true rfl, aCt.mk (c_checkGap hst (by omega) h hB at9) (by decide) (by decide) ?_⟩
  rw [hlen]
  rintro r h1 ⟨⟨c1, rfl⟩ | ⟨c1, rfl⟩, hh⟩
  rotate_left
  · obtain rfl := hh.symm
    rw [if_neg (fun z => c1 (hI.mpr z))]
    exact ⟨rfl, hC, kC2.refl h⟩
  obtain rfl := hh.symm
  rw [if_pos (hI.mp c1)]
  try simp only [o_iadd, o_isub, o_imul, o_iand, o_ladd, o_lsub, o_lmul, o_land, o_lxor, o_ineg, o_lneg, o_i2l, o_l2i, o_i2f, o_l2d, o_lcmp, o_dcmp, o_fcmp, o_ldiv, o_lrem, o_fdiv, o_ddiv, o_f2d, o_c, o_iload, o_lload, o_fload, o_dload, o_aload, o_istore, o_lstore, o_fstore, o_dstore, o_astore, o_iinc, o_dup, o_pop, o_dupx1, o_dup2, o_dup2l, o_ifeq, o_iceq, o_ifne, o_icne, o_iflt, o_iclt, o_ifge, o_icge, o_ifgt, o_icgt, o_ifle, o_icle, o_at, o_iret, o_lret, o_fret, o_dret, o_zret, o_cret, o_vret, o_aret, o_get, o_put, o_new, o_ald, o_iast, o_last, o_dast, o_aast, o_alen, o_newa, o_cast, o_acmpeq, o_acmpne, o_calls, o_callv, o_calln, o_calli, o_obj, o_throw, o_callh, o_sw, o_acopy, lg, lset1, lset2, lk, aPop, Value.category, List.map_cons, List.map_nil, List.sum_cons, List.sum_nil, Option.toList, List.cons_append, List.nil_append, true_and, and_true, aTFit, if_true, if_false, kV, eq_self, and_self]
  refine bX2_line_13 (by omega) _ _ _ _ _ ?_
  try simp only [o_iadd, o_isub, o_imul, o_iand, o_ladd, o_lsub, o_lmul, o_land, o_lxor, o_ineg, o_lneg, o_i2l, o_l2i, o_i2f, o_l2d, o_lcmp, o_dcmp, o_fcmp, o_ldiv, o_lrem, o_fdiv, o_ddiv, o_f2d, o_c, o_iload, o_lload, o_fload, o_dload, o_aload, o_istore, o_lstore, o_fstore, o_dstore, o_astore, o_iinc, o_dup, o_pop, o_dupx1, o_dup2, o_dup2l, o_ifeq, o_iceq, o_ifne, o_icne, o_iflt, o_iclt, o_ifge, o_icge, o_ifgt, o_icgt, o_ifle, o_icle, o_at, o_iret, o_lret, o_fret, o_dret, o_zret, o_cret, o_vret, o_aret, o_get, o_put, o_new, o_ald, o_iast, o_last, o_dast, o_aast, o_alen, o_newa, o_cast, o_acmpeq, o_acmpne, o_calls, o_callv, o_calln, o_calli, o_obj, o_throw, o_callh, o_sw, o_acopy, lg, lset1, lset2, lk, aPop, Value.category, List.map_cons, List.map_nil, List.sum_cons, List.sum_nil, Option.toList, List.cons_append, List.nil_append, true_and, and_true, aTFit, if_true, if_false, kV, eq_self, and_self]
  refine ⟨Nat.le_of_ble_eq_true rfl, aCt.mk (c_checkPrice hst (by omega) h p g c) (by decide) (by decide) ?_⟩
  rintro r h1 ⟨⟨c2, rfl⟩ | ⟨c2, rfl⟩, hh⟩
  rotate_left
  · obtain rfl := hh.symm
    rw [if_neg (fun z => c2 ((okP_iff p g c).mpr z))]
    exact ⟨rfl, hC, kC2.refl h⟩
  obtain rfl := hh.symm
  rw [if_pos ((okP_iff p g c).mp c2)]
  try simp only [o_iadd, o_isub, o_imul, o_iand, o_ladd, o_lsub, o_lmul, o_land, o_lxor, o_ineg, o_lneg, o_i2l, o_l2i, o_i2f, o_l2d, o_lcmp, o_dcmp, o_fcmp, o_ldiv, o_lrem, o_fdiv, o_ddiv, o_f2d, o_c, o_iload, o_lload, o_fload, o_dload, o_aload, o_istore, o_lstore, o_fstore, o_dstore, o_astore, o_iinc, o_dup, o_pop, o_dupx1, o_dup2, o_dup2l, o_ifeq, o_iceq, o_ifne, o_icne, o_iflt, o_iclt, o_ifge, o_icge, o_ifgt, o_icgt, o_ifle, o_icle, o_at, o_iret, o_lret, o_fret, o_dret, o_zret, o_cret, o_vret, o_aret, o_get, o_put, o_new, o_ald, o_iast, o_last, o_dast, o_aast, o_alen, o_newa, o_cast, o_acmpeq, o_acmpne, o_calls, o_callv, o_calln, o_calli, o_obj, o_throw, o_callh, o_sw, o_acopy, lg, lset1, lset2, lk, aPop, Value.category, List.map_cons, List.map_nil, List.sum_cons, List.sum_nil, Option.toList, List.cons_append, List.nil_append, true_and, and_true, aTFit, if_true, if_false, kV, eq_self, and_self]
  refine bX2_line_21 (by omega) _ _ _ _ _ ?_
  try simp only [o_iadd, o_isub, o_imul, o_iand, o_ladd, o_lsub, o_lmul, o_land, o_lxor, o_ineg, o_lneg, o_i2l, o_l2i, o_i2f, o_l2d, o_lcmp, o_dcmp, o_fcmp, o_ldiv, o_lrem, o_fdiv, o_ddiv, o_f2d, o_c, o_iload, o_lload, o_fload, o_dload, o_aload, o_istore, o_lstore, o_fstore, o_dstore, o_astore, o_iinc, o_dup, o_pop, o_dupx1, o_dup2, o_dup2l, o_ifeq, o_iceq, o_ifne, o_icne, o_iflt, o_iclt, o_ifge, o_icge, o_ifgt, o_icgt, o_ifle, o_icle, o_at, o_iret, o_lret, o_fret, o_dret, o_zret, o_cret, o_vret, o_aret, o_get, o_put, o_new, o_ald, o_iast, o_last, o_dast, o_aast, o_alen, o_newa, o_cast, o_acmpeq, o_acmpne, o_calls, o_callv, o_calln, o_calli, o_obj, o_throw, o_callh, o_sw, o_acopy, lg, lset1, lset2, lk, aPop, Value.category, List.map_cons, List.map_nil, List.sum_cons, List.sum_nil, Option.toList, List.cons_append, List.nil_append, true_and, and_true, aTFit, if_true, if_false, kV, eq_self, and_self]
  refine ⟨Nat.le_of_ble_eq_true rfl, aCt.mk (c_checkOpen hst (by omega) h hB) (by decide) (by decide) ?_⟩
  rintro r h1 ⟨⟨c3, rfl⟩ | ⟨c3, rfl⟩, hh⟩
  rotate_left
  · obtain rfl := hh.symm
    rw [if_neg c3]
    exact ⟨rfl, hC, kC2.refl h⟩
  obtain rfl := hh.symm
  rw [if_pos c3]
  try simp only [o_iadd, o_isub, o_imul, o_iand, o_ladd, o_lsub, o_lmul, o_land, o_lxor, o_ineg, o_lneg, o_i2l, o_l2i, o_i2f, o_l2d, o_lcmp, o_dcmp, o_fcmp, o_ldiv, o_lrem, o_fdiv, o_ddiv, o_f2d, o_c, o_iload, o_lload, o_fload, o_dload, o_aload, o_istore, o_lstore, o_fstore, o_dstore, o_astore, o_iinc, o_dup, o_pop, o_dupx1, o_dup2, o_dup2l, o_ifeq, o_iceq, o_ifne, o_icne, o_iflt, o_iclt, o_ifge, o_icge, o_ifgt, o_icgt, o_ifle, o_icle, o_at, o_iret, o_lret, o_fret, o_dret, o_zret, o_cret, o_vret, o_aret, o_get, o_put, o_new, o_ald, o_iast, o_last, o_dast, o_aast, o_alen, o_newa, o_cast, o_acmpeq, o_acmpne, o_calls, o_callv, o_calln, o_calli, o_obj, o_throw, o_callh, o_sw, o_acopy, lg, lset1, lset2, lk, aPop, Value.category, List.map_cons, List.map_nil, List.sum_cons, List.sum_nil, Option.toList, List.cons_append, List.nil_append, true_and, and_true, aTFit, if_true, if_false, kV, eq_self, and_self]
  refine bX2_line_26 (by omega) _ _ _ _ _ ?_
  try simp only [o_iadd, o_isub, o_imul, o_iand, o_ladd, o_lsub, o_lmul, o_land, o_lxor, o_ineg, o_lneg, o_i2l, o_l2i, o_i2f, o_l2d, o_lcmp, o_dcmp, o_fcmp, o_ldiv, o_lrem, o_fdiv, o_ddiv, o_f2d, o_c, o_iload, o_lload, o_fload, o_dload, o_aload, o_istore, o_lstore, o_fstore, o_dstore, o_astore, o_iinc, o_dup, o_pop, o_dupx1, o_dup2, o_dup2l, o_ifeq, o_iceq, o_ifne, o_icne, o_iflt, o_iclt, o_ifge, o_icge, o_ifgt, o_icgt, o_ifle, o_icle, o_at, o_iret, o_lret, o_fret, o_dret, o_zret, o_cret, o_vret, o_aret, o_get, o_put, o_new, o_ald, o_iast, o_last, o_dast, o_aast, o_alen, o_newa, o_cast, o_acmpeq, o_acmpne, o_calls, o_callv, o_calln, o_calli, o_obj, o_throw, o_callh, o_sw, o_acopy, lg, lset1, lset2, lk, aPop, Value.category, List.map_cons, List.map_nil, List.sum_cons, List.sum_nil, Option.toList, List.cons_append, List.nil_append, true_and, and_true, aTFit, if_true, if_false, kV, eq_self, and_self]
  refine ⟨Nat.le_of_ble_eq_true rfl, aCt.mk (c_checkRoom hst (by omega) h hB 1 (by decide)) (by decide) (by decide) ?_⟩
  rw [hlen]
  rintro r h1 ⟨⟨c4, rfl⟩ | ⟨c4, rfl⟩, hh⟩
  rotate_left
  · obtain rfl := hh.symm
    rw [if_neg c4]
    exact ⟨rfl, hC, kC2.refl h⟩
  obtain rfl := hh.symm
  rw [if_pos c4]
  obtain ⟨j, hj, rfl⟩ := c1
  obtain ⟨hp, ⟨g2, hg2, rfl⟩, hc⟩ := c2
  rw [nI_clamp (by omega), nI_clamp (by omega)]
  have hol : sL.ok (p, g2, c, 0, 0) := ⟨hp, by show g2 ≤ 4; omega, hc, show (-5000 : Int) ≤ (0 : Int32).toInt by decide, show (0 : Int32).toInt ≤ 9999 by decide⟩
  obtain ⟨-, ⟨m, ha⟩, -⟩ := id hal
  try simp only [o_iadd, o_isub, o_imul, o_iand, o_ladd, o_lsub, o_lmul, o_land, o_lxor, o_ineg, o_lneg, o_i2l, o_l2i, o_i2f, o_l2d, o_lcmp, o_dcmp, o_fcmp, o_ldiv, o_lrem, o_fdiv, o_ddiv, o_f2d, o_c, o_iload, o_lload, o_fload, o_dload, o_aload, o_istore, o_lstore, o_fstore, o_dstore, o_astore, o_iinc, o_dup, o_pop, o_dupx1, o_dup2, o_dup2l, o_ifeq, o_iceq, o_ifne, o_icne, o_iflt, o_iclt, o_ifge, o_icge, o_ifgt, o_icgt, o_ifle, o_icle, o_at, o_iret, o_lret, o_fret, o_dret, o_zret, o_cret, o_vret, o_aret, o_get, o_put, o_new, o_ald, o_iast, o_last, o_dast, o_aast, o_alen, o_newa, o_cast, o_acmpeq, o_acmpne, o_calls, o_callv, o_calln, o_calli, o_obj, o_throw, o_callh, o_sw, o_acopy, lg, lset1, lset2, lk, aPop, Value.category, List.map_cons, List.map_nil, List.sum_cons, List.sum_nil, Option.toList, List.cons_append, List.nil_append, true_and, and_true, aTFit, if_true, if_false, kV, eq_self, and_self]
  refine bX2_line_32 (by omega) _ _ _ _ _ ?_
  try simp only [o_iadd, o_isub, o_imul, o_iand, o_ladd, o_lsub, o_lmul, o_land, o_lxor, o_ineg, o_lneg, o_i2l, o_l2i, o_i2f, o_l2d, o_lcmp, o_dcmp, o_fcmp, o_ldiv, o_lrem, o_fdiv, o_ddiv, o_f2d, o_c, o_iload, o_lload, o_fload, o_dload, o_aload, o_istore, o_lstore, o_fstore, o_dstore, o_astore, o_iinc, o_dup, o_pop, o_dupx1, o_dup2, o_dup2l, o_ifeq, o_iceq, o_ifne, o_icne, o_iflt, o_iclt, o_ifge, o_icge, o_ifgt, o_icgt, o_ifle, o_icle, o_at, o_iret, o_lret, o_fret, o_dret, o_zret, o_cret, o_vret, o_aret, o_get, o_put, o_new, o_ald, o_iast, o_last, o_dast, o_aast, o_alen, o_newa, o_cast, o_acmpeq, o_acmpne, o_calls, o_callv, o_calln, o_calli, o_obj, o_throw, o_callh, o_sw, o_acopy, lg, lset1, lset2, lk, aPop, Value.category, List.map_cons, List.map_nil, List.sum_cons, List.sum_nil, Option.toList, List.cons_append, List.nil_append, true_and, and_true, aTFit, if_true, if_false, kV, eq_self, and_self]
  refine aObj.mk hb9 (aVal.mk rfl ?_)
  try simp only [o_iadd, o_isub, o_imul, o_iand, o_ladd, o_lsub, o_lmul, o_land, o_lxor, o_ineg, o_lneg, o_i2l, o_l2i, o_i2f, o_l2d, o_lcmp, o_dcmp, o_fcmp, o_ldiv, o_lrem, o_fdiv, o_ddiv, o_f2d, o_c, o_iload, o_lload, o_fload, o_dload, o_aload, o_istore, o_lstore, o_fstore, o_dstore, o_astore, o_iinc, o_dup, o_pop, o_dupx1, o_dup2, o_dup2l, o_ifeq, o_iceq, o_ifne, o_icne, o_iflt, o_iclt, o_ifge, o_icge, o_ifgt, o_icgt, o_ifle, o_icle, o_at, o_iret, o_lret, o_fret, o_dret, o_zret, o_cret, o_vret, o_aret, o_get, o_put, o_new, o_ald, o_iast, o_last, o_dast, o_aast, o_alen, o_newa, o_cast, o_acmpeq, o_acmpne, o_calls, o_callv, o_calln, o_calli, o_obj, o_throw, o_callh, o_sw, o_acopy, lg, lset1, lset2, lk, aPop, Value.category, List.map_cons, List.map_nil, List.sum_cons, List.sum_nil, Option.toList, List.cons_append, List.nil_append, true_and, and_true, aTFit, if_true, if_false, kV, eq_self, and_self]
  refine ⟨by decide, by decide, fun w hw => ?_⟩
  refine ⟨Nat.le_of_ble_eq_true rfl, aCn.mk (c_lineInit hst (by omega) _ w (p, g2, c, 0, 0) hol _ _ _ _ _ _ (aUp_eq _ _ _)) (Nat.zero_le _) (Nat.zero_le _) (by rintro E h' ⟨z, -⟩; cases z) ?_⟩
  rintro v h4 ⟨z, rfl⟩
  cases z
  try simp only [o_iadd, o_isub, o_imul, o_iand, o_ladd, o_lsub, o_lmul, o_land, o_lxor, o_ineg, o_lneg, o_i2l, o_l2i, o_i2f, o_l2d, o_lcmp, o_dcmp, o_fcmp, o_ldiv, o_lrem, o_fdiv, o_ddiv, o_f2d, o_c, o_iload, o_lload, o_fload, o_dload, o_aload, o_istore, o_lstore, o_fstore, o_dstore, o_astore, o_iinc, o_dup, o_pop, o_dupx1, o_dup2, o_dup2l, o_ifeq, o_iceq, o_ifne, o_icne, o_iflt, o_iclt, o_ifge, o_icge, o_ifgt, o_icgt, o_ifle, o_icle, o_at, o_iret, o_lret, o_fret, o_dret, o_zret, o_cret, o_vret, o_aret, o_get, o_put, o_new, o_ald, o_iast, o_last, o_dast, o_aast, o_alen, o_newa, o_cast, o_acmpeq, o_acmpne, o_calls, o_callv, o_calln, o_calli, o_obj, o_throw, o_callh, o_sw, o_acopy, lg, lset1, lset2, lk, aPop, Value.category, List.map_cons, List.map_nil, List.sum_cons, List.sum_nil, Option.toList, List.cons_append, List.nil_append, true_and, and_true, aTFit, if_true, if_false, kV, eq_self, and_self]
  rw [aUp_same]
  refine bX2_line_51 (by omega) _ _ _ _ _ ?_
  try simp only [o_iadd, o_isub, o_imul, o_iand, o_ladd, o_lsub, o_lmul, o_land, o_lxor, o_ineg, o_lneg, o_i2l, o_l2i, o_i2f, o_l2d, o_lcmp, o_dcmp, o_fcmp, o_ldiv, o_lrem, o_fdiv, o_ddiv, o_f2d, o_c, o_iload, o_lload, o_fload, o_dload, o_aload, o_istore, o_lstore, o_fstore, o_dstore, o_astore, o_iinc, o_dup, o_pop, o_dupx1, o_dup2, o_dup2l, o_ifeq, o_iceq, o_ifne, o_icne, o_iflt, o_iclt, o_ifge, o_icge, o_ifgt, o_icgt, o_ifle, o_icle, o_at, o_iret, o_lret, o_fret, o_dret, o_zret, o_cret, o_vret, o_aret, o_get, o_put, o_new, o_ald, o_iast, o_last, o_dast, o_aast, o_alen, o_newa, o_cast, o_acmpeq, o_acmpne, o_calls, o_callv, o_calln, o_calli, o_obj, o_throw, o_callh, o_sw, o_acopy, lg, lset1, lset2, lk, aPop, Value.category, List.map_cons, List.map_nil, List.sum_cons, List.sum_nil, Option.toList, List.cons_append, List.nil_append, true_and, and_true, aTFit, if_true, if_false, kV, eq_self, and_self]
  have hB2 := hB.fr (c := (2, lnV (setT (p, g2, c, 0, 0) 0))) hw
  have hwy2 : w ∉ fx i := fun y => by
    obtain ⟨v, hv⟩ := hB.kinds.2.2.2 w y
    exact fr_ne hv hw rfl
  refine ⟨Nat.le_of_ble_eq_true rfl, aKind.mk ((aUp_ne (fr_ne ha hw)).trans ha) rfl, aCt.mk (c_alins hst (by omega) _ _ _ j w _ hB2.2.1 (by omega) (by omega) (aKind.mk (aUp_eq _ _ _) rfl) hB2.lineK) (by decide) (by decide) ?_⟩
  rintro r h4 ⟨m', e', rfl, rfl, hne, he⟩
  have hB3 := hB2.ins (m := m') (i := j) (aUp_eq _ _ _) hwy2 hol (by omega) (by omega) hne he
  obtain ⟨-, ⟨m1, ha1⟩, -⟩ := id hB3.2.1
  have hlen2 : ((fx i).insertIdx j w).length = (S i).n + 1 := by rw [List.length_insertIdx_of_le_length (by omega), hlen]
  have he2 : e' = fe i ∨ h e' = none := he.imp id aUp_none
  have hF : Fr G h (alUp G (aUp h w (2, lnV (setT (p, g2, c, 0, 0) 0))) (fa i) m' e' ((fx i).insertIdx j w)) (fb i) (fa i) (fe i) (fx i) := by
    refine ⟨fun _ z => aUp_none (alUp_none z), fun y z1 z2 z3 z4 z5 => ?_⟩
    refine (alUp_ne z3 ?_).trans (aUp_ne (fun u => z1 (u ▸ hw)))
    rcases he2 with u | u
    · rw [u]; exact z4
    · exact Or.inl (fun v => z1 (v ▸ u))
  try simp only [o_iadd, o_isub, o_imul, o_iand, o_ladd, o_lsub, o_lmul, o_land, o_lxor, o_ineg, o_lneg, o_i2l, o_l2i, o_i2f, o_l2d, o_lcmp, o_dcmp, o_fcmp, o_ldiv, o_lrem, o_fdiv, o_ddiv, o_f2d, o_c, o_iload, o_lload, o_fload, o_dload, o_aload, o_istore, o_lstore, o_fstore, o_dstore, o_astore, o_iinc, o_dup, o_pop, o_dupx1, o_dup2, o_dup2l, o_ifeq, o_iceq, o_ifne, o_icne, o_iflt, o_iclt, o_ifge, o_icge, o_ifgt, o_icgt, o_ifle, o_icle, o_at, o_iret, o_lret, o_fret, o_dret, o_zret, o_cret, o_vret, o_aret, o_get, o_put, o_new, o_ald, o_iast, o_last, o_dast, o_aast, o_alen, o_newa, o_cast, o_acmpeq, o_acmpne, o_calls, o_callv, o_calln, o_calli, o_obj, o_throw, o_callh, o_sw, o_acopy, lg, lset1, lset2, lk, aPop, Value.category, List.map_cons, List.map_nil, List.sum_cons, List.sum_nil, Option.toList, List.cons_append, List.nil_append, true_and, and_true, aTFit, if_true, if_false, kV, eq_self, and_self]
  refine bX2_line_54 (by omega) _ _ _ _ _ ?_
  try simp only [o_iadd, o_isub, o_imul, o_iand, o_ladd, o_lsub, o_lmul, o_land, o_lxor, o_ineg, o_lneg, o_i2l, o_l2i, o_i2f, o_l2d, o_lcmp, o_dcmp, o_fcmp, o_ldiv, o_lrem, o_fdiv, o_ddiv, o_f2d, o_c, o_iload, o_lload, o_fload, o_dload, o_aload, o_istore, o_lstore, o_fstore, o_dstore, o_astore, o_iinc, o_dup, o_pop, o_dupx1, o_dup2, o_dup2l, o_ifeq, o_iceq, o_ifne, o_icne, o_iflt, o_iclt, o_ifge, o_icge, o_ifgt, o_icgt, o_ifle, o_icle, o_at, o_iret, o_lret, o_fret, o_dret, o_zret, o_cret, o_vret, o_aret, o_get, o_put, o_new, o_ald, o_iast, o_last, o_dast, o_aast, o_alen, o_newa, o_cast, o_acmpeq, o_acmpne, o_calls, o_callv, o_calln, o_calli, o_obj, o_throw, o_callh, o_sw, o_acopy, lg, lset1, lset2, lk, aPop, Value.category, List.map_cons, List.map_nil, List.sum_cons, List.sum_nil, Option.toList, List.cons_append, List.nil_append, true_and, and_true, aTFit, if_true, if_false, kV, eq_self, and_self]
  refine aObj.mk hB3.1 (aVal.mk rfl ⟨Nat.le_of_ble_eq_true rfl, aKind.mk ha1 rfl, aCt.mk (c_alsize hst (by omega) _ _ _ m1 _ ha1) (Nat.zero_le _) (Nat.zero_le _) ?_⟩)
  rintro r h2 ⟨rfl, hh⟩
  obtain rfl := hh.symm
  try simp only [o_iadd, o_isub, o_imul, o_iand, o_ladd, o_lsub, o_lmul, o_land, o_lxor, o_ineg, o_lneg, o_i2l, o_l2i, o_i2f, o_l2d, o_lcmp, o_dcmp, o_fcmp, o_ldiv, o_lrem, o_fdiv, o_ddiv, o_f2d, o_c, o_iload, o_lload, o_fload, o_dload, o_aload, o_istore, o_lstore, o_fstore, o_dstore, o_astore, o_iinc, o_dup, o_pop, o_dupx1, o_dup2, o_dup2l, o_ifeq, o_iceq, o_ifne, o_icne, o_iflt, o_iclt, o_ifge, o_icge, o_ifgt, o_icgt, o_ifle, o_icle, o_at, o_iret, o_lret, o_fret, o_dret, o_zret, o_cret, o_vret, o_aret, o_get, o_put, o_new, o_ald, o_iast, o_last, o_dast, o_aast, o_alen, o_newa, o_cast, o_acmpeq, o_acmpne, o_calls, o_callv, o_calln, o_calli, o_obj, o_throw, o_callh, o_sw, o_acopy, lg, lset1, lset2, lk, aPop, Value.category, List.map_cons, List.map_nil, List.sum_cons, List.sum_nil, Option.toList, List.cons_append, List.nil_append, true_and, and_true, aTFit, if_true, if_false, kV, eq_self, and_self]
  refine bX2_line_62 (by omega) _ _ _ _ _ ?_
  try simp only [o_iadd, o_isub, o_imul, o_iand, o_ladd, o_lsub, o_lmul, o_land, o_lxor, o_ineg, o_lneg, o_i2l, o_l2i, o_i2f, o_l2d, o_lcmp, o_dcmp, o_fcmp, o_ldiv, o_lrem, o_fdiv, o_ddiv, o_f2d, o_c, o_iload, o_lload, o_fload, o_dload, o_aload, o_istore, o_lstore, o_fstore, o_dstore, o_astore, o_iinc, o_dup, o_pop, o_dupx1, o_dup2, o_dup2l, o_ifeq, o_iceq, o_ifne, o_icne, o_iflt, o_iclt, o_ifge, o_icge, o_ifgt, o_icgt, o_ifle, o_icle, o_at, o_iret, o_lret, o_fret, o_dret, o_zret, o_cret, o_vret, o_aret, o_get, o_put, o_new, o_ald, o_iast, o_last, o_dast, o_aast, o_alen, o_newa, o_cast, o_acmpeq, o_acmpne, o_calls, o_callv, o_calln, o_calli, o_obj, o_throw, o_callh, o_sw, o_acopy, lg, lset1, lset2, lk, aPop, Value.category, List.map_cons, List.map_nil, List.sum_cons, List.sum_nil, Option.toList, List.cons_append, List.nil_append, true_and, and_true, aTFit, if_true, if_false, kV, eq_self, and_self]
  rw [hlen2]
  refine ⟨rfl, hA.upd hi hF ⟨hB3, hlen2⟩ ⟨he2, fun y hy => ?_⟩, hF.kC2 hB⟩
  rcases (List.mem_insertIdx (by omega)).mp hy with z | z
  · exact Or.inr (z ▸ hw)
  · exact Or.inl z
end Face13
