/-! a line taken out -/
section Face11
variable {G : gG} {d : Nat}
theorem Fr.list {h : aH} {b a e e2 : Nat} {xs ys : List Nat} {m : Int32} (he : e2 = e ∨ h e2 = none) : Fr G h (alUp G h a m e2 ys) b a e xs := by
  refine ⟨fun _ z => alUp_none z, fun q z1 _ z3 z4 _ => alUp_ne z3 ?_⟩
  rcases he with w | w
  · rw [w]; exact z4
  · exact Or.inl (fun y => z1 (y ▸ w))
abbrev erL (ls : Nat → sL) (j : Nat) : Nat → sL := fun p => if p < j then ls p else ls (p + 1)
theorem Bv.erase {h : aH} {b a e : Nat} {ys : List Nat} {pl wy cl : Nat} {ls : Nat → sL} {m : Int32} {i : Nat} (hB : Bv G h b a e ys pl wy cl ls) (hi : i < ys.length) (hne : e ≠ gE G) : Bv G (alUp G h a m e (ys.eraseIdx i)) b a e (ys.eraseIdx i) pl wy cl (erL ls i) := by
  obtain ⟨hb, hal, hl, hnd, hpl, hwy, hcl, hok⟩ := id hB
  have hn := hal.1
  have hlen : (ys.eraseIdx i).length = ys.length - 1 := List.length_eraseIdx_of_lt hi
  refine hB.list (Or.inl rfl) (Or.inl hne) (by omega) (hnd.sublist (List.eraseIdx_sublist ys i)) (fun p hp => ?_) (fun p hp => ?_)
  · unfold erL
    by_cases c : p < i
    · rw [List.getElem_eraseIdx_of_lt _ c, hl p (by omega), if_pos c]
    · rw [List.getElem_eraseIdx_of_ge _ (by omega), hl (p + 1) (by omega), if_neg c]
  · unfold erL
    split
    · exact hok _ (by omega)
    · exact hok _ (by omega)
theorem Bv.lineK {h : aH} {b a e : Nat} {xs : List Nat} {pl wy cl : Nat} {ls : Nat → sL} (hB : Bv G h b a e xs pl wy cl ls) : ∀ y ∈ xs, aKind h y (fun c => c = 2) := by
  intro y hy
  obtain ⟨v, hv⟩ := hB.kinds.2.2.2 y hy
  exact aKind.mk hv rfl
def sp_remove (S : Nat → sB) (bill at9 : Int32) : aR × (Nat → sB) := spM S bill fun i B => if InD at9 B.n then (if B.cl = 0 then (aInt (B.n - 1), upS S i (B.pl, B.wy, B.cl, B.n - 1, erL B.ls at9.toNatClampNeg)) else (.inr eIS, S)) else (.inr eIO, S)
theorem f_remove (hst : (gl G).stackTraces = false) (hd : 16 ≤ d) (h : aH) {x : Nat} {S : Nat → sB} (hC : Cls G h x S) (bill at9 : Int32) : CT G iX2_remove d 3 18 [.ref x, .int bill, .int at9] h (kM G x h (sp_remove S bill at9).1 (sp_remove S bill at9).2) := by
  obtain ⟨q, fb, fa, fe, fx, hA⟩ := id hC
  obtain ⟨hx, hq, hb, hD⟩ := id hA
  unfold sp_remove
  refine ct_of (L := [some (.ref x), some (.int bill), some (.int at9), none]) (plainFor_of_name (by decide +kernel)) rfl hst rfl rfl (Nat.le_of_ble_eq_true rfl) ?_
  refine bX2_remove_0 (by omega) _ _ _ _ _ ?_
  try simp only [o_iadd, o_isub, o_imul, o_iand, o_ladd, o_lsub, o_lmul, o_land, o_lxor, o_ineg, o_lneg, o_i2l, o_l2i, o_i2f, o_l2d, o_lcmp, o_dcmp, o_fcmp, o_ldiv, o_lrem, o_fdiv, o_ddiv, o_f2d, o_c, o_iload, o_lload, o_fload, o_dload, o_aload, o_istore, o_lstore, o_fstore, o_dstore, o_astore, o_iinc, o_dup, o_pop, o_dupx1, o_dup2, o_dup2l, o_ifeq, o_iceq, o_ifne, o_icne, o_iflt, o_iclt, o_ifge, o_icge, o_ifgt, o_icgt, o_ifle, o_icle, o_at, o_iret, o_lret, o_fret, o_dret, o_zret, o_cret, o_vret, o_aret, o_get, o_put, o_new, o_ald, o_iast, o_last, o_dast, o_aast, o_alen, o_newa, o_cast, o_acmpeq, o_acmpne, o_calls, o_callv, o_calln, o_calli, o_obj, o_throw, o_callh, o_sw, o_acopy, lg, lset1, lset2, lk, aPop, Value.category, List.map_cons, List.map_nil, List.sum_cons, List.sum_nil, Option.toList, List.cons_append, List.nil_append, true_and, and_true, aTFit, if_true, if_false, kV, eq_self, and_self]
  refine ⟨Nat.le_of_ble_eq_true rfl, aKind.mk hx rfl, aCt.mk (c_billAt hst (by omega) h x q _ _ _ bill hx hq) (by decide) (by decide) ?_⟩
  rintro r h1 ⟨⟨i, b, hi, rfl, hbi, rfl⟩ | ⟨hn, rfl⟩, hh⟩
  rotate_left
  · obtain rfl := hh.symm
    rw [spM_no hn]
    exact ⟨rfl, hC, kC2.refl h⟩
  obtain rfl := hh.symm
  obtain rfl := three hi hbi
  obtain ⟨hB, hlen⟩ := hb i hi
  obtain ⟨hb9, hal, hl, hnd, hpl, hwy, hcl, hok⟩ := id hB
  rw [spM_ok hi]
  have hn9 := hal.1
  have hI := inD_iff (x := at9) (n := (S i).n) (by omega)
  try simp only [o_iadd, o_isub, o_imul, o_iand, o_ladd, o_lsub, o_lmul, o_land, o_lxor, o_ineg, o_lneg, o_i2l, o_l2i, o_i2f, o_l2d, o_lcmp, o_dcmp, o_fcmp, o_ldiv, o_lrem, o_fdiv, o_ddiv, o_f2d, o_c, o_iload, o_lload, o_fload, o_dload, o_aload, o_istore, o_lstore, o_fstore, o_dstore, o_astore, o_iinc, o_dup, o_pop, o_dupx1, o_dup2, o_dup2l, o_ifeq, o_iceq, o_ifne, o_icne, o_iflt, o_iclt, o_ifge, o_icge, o_ifgt, o_icgt, o_ifle, o_icle, o_at, o_iret, o_lret, o_fret, o_dret, o_zret, o_cret, o_vret, o_aret, o_get, o_put, o_new, o_ald, o_iast, o_last, o_dast, o_aast, o_alen, o_newa, o_cast, o_acmpeq, o_acmpne, o_calls, o_callv, o_calln, o_calli, o_obj, o_throw, o_callh, o_sw, o_acopy, lg, lset1, lset2, lk, aPop, Value.category, List.map_cons, List.map_nil, List.sum_cons, List.sum_nil, Option.toList, List.cons_append, List.nil_append, true_and, and_true, aTFit, if_true, if_false, kV, eq_self, and_self]
  refine bX2_remove_5 (by omega) _ _ _ _ _ ?_
  try simp only [o_iadd, o_isub, o_imul, o_iand, o_ladd, o_lsub, o_lmul, o_land, o_lxor, o_ineg, o_lneg, o_i2l, o_l2i, o_i2f, o_l2d, o_lcmp, o_dcmp, o_fcmp, o_ldiv, o_lrem, o_fdiv, o_ddiv, o_f2d, o_c, o_iload, o_lload, o_fload, o_dload, o_aload, o_istore, o_lstore, o_fstore, o_dstore, o_astore, o_iinc, o_dup, o_pop, o_dupx1, o_dup2, o_dup2l, o_ifeq, o_iceq, o_ifne, o_icne, o_iflt, o_iclt, o_ifge, o_icge, o_ifgt, o_icgt, o_ifle, o_icle, o_at, o_iret, o_lret, o_fret, o_dret, o_zret, o_cret, o_vret, o_aret, o_get, o_put, o_new, o_ald, o_iast, o_last, o_dast, o_aast, o_alen, o_newa, o_cast, o_acmpeq, o_acmpne, o_calls, o_callv, o_calln, o_calli, o_obj, o_throw, o_callh, o_sw, o_acopy, lg, lset1, lset2, lk, aPop, Value.category, List.map_cons, List.map_nil, List.sum_cons, List.sum_nil, Option.toList, List.cons_append, List.nil_append, true_and, and_true, aTFit, if_true, if_false, kV, eq_self, and_self]
  refine ⟨Nat.le_of_ble_eq_true rfl, aCt.mk (c_checkLine hst (by omega) h hB at9) (by decide) (by decide) ?_⟩
  rw [hlen]
  rintro r h1 ⟨⟨c1, rfl⟩ | ⟨c1, rfl⟩, hh⟩
  rotate_left
  · obtain rfl := hh.symm
    rw [if_neg (fun z => c1 (hI.mpr z))]
    exact ⟨rfl, hC, kC2.refl h⟩
  obtain rfl := hh.symm
  rw [if_pos (hI.mp c1)]
  try simp only [o_iadd, o_isub, o_imul, o_iand, o_ladd, o_lsub, o_lmul, o_land, o_lxor, o_ineg, o_lneg, o_i2l, o_l2i, o_i2f, o_l2d, o_lcmp, o_dcmp, o_fcmp, o_ldiv, o_lrem, o_fdiv, o_ddiv, o_f2d, o_c, o_iload, o_lload, o_fload, o_dload, o_aload, o_istore, o_lstore, o_fstore, o_dstore, o_astore, o_iinc, o_dup, o_pop, o_dupx1, o_dup2, o_dup2l, o_ifeq, o_iceq, o_ifne, o_icne, o_iflt, o_iclt, o_ifge, o_icge, o_ifgt, o_icgt, o_ifle, o_icle, o_at, o_iret, o_lret, o_fret, o_dret, o_zret, o_cret, o_vret, o_aret, o_get, o_put, o_new, o_ald, o_iast, o_last, o_dast, o_aast, o_alen, o_newa, o_cast, o_acmpeq, o_acmpne, o_calls, o_callv, o_calln, o_calli, o_obj, o_throw, o_callh, o_sw, o_acopy, lg, lset1, lset2, lk, aPop, Value.category, List.map_cons, List.map_nil, List.sum_cons, List.sum_nil, Option.toList, List.cons_append, List.nil_append, true_and, and_true, aTFit, if_true, if_false, kV, eq_self, and_self]
  refine bX2_remove_11 (by omega) _ _ _ _ _ ?_
  try simp only [o_iadd, o_isub, o_imul, o_iand, o_ladd, o_lsub, o_lmul, o_land, o_lxor, o_ineg, o_lneg, o_i2l, o_l2i, o_i2f, o_l2d, o_lcmp, o_dcmp, o_fcmp, o_ldiv, o_lrem, o_fdiv, o_ddiv, o_f2d, o_c, o_iload, o_lload, o_fload, o_dload, o_aload, o_istore, o_lstore, o_fstore, o_dstore, o_astore, o_iinc, o_dup, o_pop, o_dupx1, o_dup2, o_dup2l, o_ifeq, o_iceq, o_ifne, o_icne, o_iflt, o_iclt, o_ifge, o_icge, o_ifgt, o_icgt, o_ifle, o_icle, o_at, o_iret, o_lret, o_fret, o_dret, o_zret, o_cret, o_vret, o_aret, o_get, o_put, o_new, o_ald, o_iast, o_last, o_dast, o_aast, o_alen, o_newa, o_cast, o_acmpeq, o_acmpne, o_calls, o_callv, o_calln, o_calli, o_obj, o_throw, o_callh, o_sw, o_acopy, lg, lset1, lset2, lk, aPop, Value.category, List.map_cons, List.map_nil, List.sum_cons, List.sum_nil, Option.toList, List.cons_append, List.nil_append, true_and, and_true, aTFit, if_true, if_false, kV, eq_self, and_self]
  refine ⟨Nat.le_of_ble_eq_true rfl, aCt.mk (c_checkOpen hst (by omega) h hB) (by decide) (by decide) ?_⟩
  rintro r h1 ⟨⟨c3, rfl⟩ | ⟨c3, rfl⟩, hh⟩
  rotate_left
  · obtain rfl := hh.symm
    rw [if_neg c3]
    exact ⟨rfl, hC, kC2.refl h⟩
  obtain rfl := hh.symm
  rw [if_pos c3]
  obtain ⟨j, hj, rfl⟩ := c1
  rw [nI_clamp (by omega)]
  obtain ⟨-, ⟨m, ha⟩, -⟩ := id hal
  have hlen2 : ((fx i).eraseIdx j).length = (S i).n - 1 := by rw [List.length_eraseIdx_of_lt (by omega), hlen]
  try simp only [o_iadd, o_isub, o_imul, o_iand, o_ladd, o_lsub, o_lmul, o_land, o_lxor, o_ineg, o_lneg, o_i2l, o_l2i, o_i2f, o_l2d, o_lcmp, o_dcmp, o_fcmp, o_ldiv, o_lrem, o_fdiv, o_ddiv, o_f2d, o_c, o_iload, o_lload, o_fload, o_dload, o_aload, o_istore, o_lstore, o_fstore, o_dstore, o_astore, o_iinc, o_dup, o_pop, o_dupx1, o_dup2, o_dup2l, o_ifeq, o_iceq, o_ifne, o_icne, o_iflt, o_iclt, o_ifge, o_icge, o_ifgt, o_icgt, o_ifle, o_icle, o_at, o_iret, o_lret, o_fret, o_dret, o_zret, o_cret, o_vret, o_aret, o_get, o_put, o_new, o_ald, o_iast, o_last, o_dast, o_aast, o_alen, o_newa, o_cast, o_acmpeq, o_acmpne, o_calls, o_callv, o_calln, o_calli, o_obj, o_throw, o_callh, o_sw, o_acopy, lg, lset1, lset2, lk, aPop, Value.category, List.map_cons, List.map_nil, List.sum_cons, List.sum_nil, Option.toList, List.cons_append, List.nil_append, true_and, and_true, aTFit, if_true, if_false, kV, eq_self, and_self]
  refine bX2_remove_15 (by omega) _ _ _ _ _ ?_
  try simp only [o_iadd, o_isub, o_imul, o_iand, o_ladd, o_lsub, o_lmul, o_land, o_lxor, o_ineg, o_lneg, o_i2l, o_l2i, o_i2f, o_l2d, o_lcmp, o_dcmp, o_fcmp, o_ldiv, o_lrem, o_fdiv, o_ddiv, o_f2d, o_c, o_iload, o_lload, o_fload, o_dload, o_aload, o_istore, o_lstore, o_fstore, o_dstore, o_astore, o_iinc, o_dup, o_pop, o_dupx1, o_dup2, o_dup2l, o_ifeq, o_iceq, o_ifne, o_icne, o_iflt, o_iclt, o_ifge, o_icge, o_ifgt, o_icgt, o_ifle, o_icle, o_at, o_iret, o_lret, o_fret, o_dret, o_zret, o_cret, o_vret, o_aret, o_get, o_put, o_new, o_ald, o_iast, o_last, o_dast, o_aast, o_alen, o_newa, o_cast, o_acmpeq, o_acmpne, o_calls, o_callv, o_calln, o_calli, o_obj, o_throw, o_callh, o_sw, o_acopy, lg, lset1, lset2, lk, aPop, Value.category, List.map_cons, List.map_nil, List.sum_cons, List.sum_nil, Option.toList, List.cons_append, List.nil_append, true_and, and_true, aTFit, if_true, if_false, kV, eq_self, and_self]
  refine aObj.mk hb9 (aVal.mk rfl ⟨Nat.le_of_ble_eq_true rfl, aKind.mk ha rfl, aCt.mk (c_alrem hst (by omega) h _ _ j _ hal (by omega) hB.lineK) (Nat.zero_le _) (Nat.zero_le _) ?_⟩)
  rintro r h1 ⟨m', rfl, rfl, hne⟩
  have hB1 := hB.erase (m := m') (i := j) (by omega) hne
  obtain ⟨-, ⟨m1, ha1⟩, -⟩ := id hB1.2.1
  try simp only [o_iadd, o_isub, o_imul, o_iand, o_ladd, o_lsub, o_lmul, o_land, o_lxor, o_ineg, o_lneg, o_i2l, o_l2i, o_i2f, o_l2d, o_lcmp, o_dcmp, o_fcmp, o_ldiv, o_lrem, o_fdiv, o_ddiv, o_f2d, o_c, o_iload, o_lload, o_fload, o_dload, o_aload, o_istore, o_lstore, o_fstore, o_dstore, o_astore, o_iinc, o_dup, o_pop, o_dupx1, o_dup2, o_dup2l, o_ifeq, o_iceq, o_ifne, o_icne, o_iflt, o_iclt, o_ifge, o_icge, o_ifgt, o_icgt, o_ifle, o_icle, o_at, o_iret, o_lret, o_fret, o_dret, o_zret, o_cret, o_vret, o_aret, o_get, o_put, o_new, o_ald, o_iast, o_last, o_dast, o_aast, o_alen, o_newa, o_cast, o_acmpeq, o_acmpne, o_calls, o_callv, o_calln, o_calli, o_obj, o_throw, o_callh, o_sw, o_acopy, lg, lset1, lset2, lk, aPop, Value.category, List.map_cons, List.map_nil, List.sum_cons, List.sum_nil, Option.toList, List.cons_append, List.nil_append, true_and, and_true, aTFit, if_true, if_false, kV, eq_self, and_self]
  refine bX2_remove_23 (by omega) _ _ _ _ _ ?_
  try simp only [o_iadd, o_isub, o_imul, o_iand, o_ladd, o_lsub, o_lmul, o_land, o_lxor, o_ineg, o_lneg, o_i2l, o_l2i, o_i2f, o_l2d, o_lcmp, o_dcmp, o_fcmp, o_ldiv, o_lrem, o_fdiv, o_ddiv, o_f2d, o_c, o_iload, o_lload, o_fload, o_dload, o_aload, o_istore, o_lstore, o_fstore, o_dstore, o_astore, o_iinc, o_dup, o_pop, o_dupx1, o_dup2, o_dup2l, o_ifeq, o_iceq, o_ifne, o_icne, o_iflt, o_iclt, o_ifge, o_icge, o_ifgt, o_icgt, o_ifle, o_icle, o_at, o_iret, o_lret, o_fret, o_dret, o_zret, o_cret, o_vret, o_aret, o_get, o_put, o_new, o_ald, o_iast, o_last, o_dast, o_aast, o_alen, o_newa, o_cast, o_acmpeq, o_acmpne, o_calls, o_callv, o_calln, o_calli, o_obj, o_throw, o_callh, o_sw, o_acopy, lg, lset1, lset2, lk, aPop, Value.category, List.map_cons, List.map_nil, List.sum_cons, List.sum_nil, Option.toList, List.cons_append, List.nil_append, true_and, and_true, aTFit, if_true, if_false, kV, eq_self, and_self]
  refine aObj.mk hB1.1 (aVal.mk rfl ⟨Nat.le_of_ble_eq_true rfl, aKind.mk ha1 rfl, aCt.mk (c_alsize hst (by omega) _ _ _ m1 _ ha1) (Nat.zero_le _) (Nat.zero_le _) ?_⟩)
  rintro r h2 ⟨rfl, hh⟩
  obtain rfl := hh.symm
  try simp only [o_iadd, o_isub, o_imul, o_iand, o_ladd, o_lsub, o_lmul, o_land, o_lxor, o_ineg, o_lneg, o_i2l, o_l2i, o_i2f, o_l2d, o_lcmp, o_dcmp, o_fcmp, o_ldiv, o_lrem, o_fdiv, o_ddiv, o_f2d, o_c, o_iload, o_lload, o_fload, o_dload, o_aload, o_istore, o_lstore, o_fstore, o_dstore, o_astore, o_iinc, o_dup, o_pop, o_dupx1, o_dup2, o_dup2l, o_ifeq, o_iceq, o_ifne, o_icne, o_iflt, o_iclt, o_ifge, o_icge, o_ifgt, o_icgt, o_ifle, o_icle, o_at, o_iret, o_lret, o_fret, o_dret, o_zret, o_cret, o_vret, o_aret, o_get, o_put, o_new, o_ald, o_iast, o_last, o_dast, o_aast, o_alen, o_newa, o_cast, o_acmpeq, o_acmpne, o_calls, o_callv, o_calln, o_calli, o_obj, o_throw, o_callh, o_sw, o_acopy, lg, lset1, lset2, lk, aPop, Value.category, List.map_cons, List.map_nil, List.sum_cons, List.sum_nil, Option.toList, List.cons_append, List.nil_append, true_and, and_true, aTFit, if_true, if_false, kV, eq_self, and_self]
  refine bX2_remove_31 (by omega) _ _ _ _ _ ?_
  try simp only [o_iadd, o_isub, o_imul, o_iand, o_ladd, o_lsub, o_lmul, o_land, o_lxor, o_ineg, o_lneg, o_i2l, o_l2i, o_i2f, o_l2d, o_lcmp, o_dcmp, o_fcmp, o_ldiv, o_lrem, o_fdiv, o_ddiv, o_f2d, o_c, o_iload, o_lload, o_fload, o_dload, o_aload, o_istore, o_lstore, o_fstore, o_dstore, o_astore, o_iinc, o_dup, o_pop, o_dupx1, o_dup2, o_dup2l, o_ifeq, o_iceq, o_ifne, o_icne, o_iflt, o_iclt, o_ifge, o_icge, o_ifgt, o_icgt, o_ifle, o_icle, o_at, o_iret, o_lret, o_fret, o_dret, o_zret, o_cret, o_vret, o_aret, o_get, o_put, o_new, o_ald, o_iast, o_last, o_dast, o_aast, o_alen, o_newa, o_cast, o_acmpeq, o_acmpne, o_calls, o_callv, o_calln, o_calli, o_obj, o_throw, o_callh, o_sw, o_acopy, lg, lset1, lset2, lk, aPop, Value.category, List.map_cons, List.map_nil, List.sum_cons, List.sum_nil, Option.toList, List.cons_append, List.nil_append, true_and, and_true, aTFit, if_true, if_false, kV, eq_self, and_self]
  rw [hlen2]
  have hF := Fr.list (G := G) (h := h) (b := fb i) (a := fa i) (e := fe i) (e2 := fe i) (xs := fx i) (ys := (fx i).eraseIdx j) (m := m') (Or.inl rfl)
  exact ⟨rfl, hA.upd hi hF ⟨hB1, hlen2⟩ ⟨Or.inl rfl, fun y hy => Or.inl ((List.eraseIdx_sublist _ _).subset hy)⟩, hF.kC2 hB⟩
end Face11
