/-! java.util.ArrayList: what changes it -/
section AList2
variable {G : gG} {d : Nat}
theorem c_algrow1 (hst : (gl G).stackTraces = false) (hd : 13 ≤ d) (h : aH) (a : Nat) (m n : Int32) (ha : h a = some (alO m (gE G) n)) (hE : h (gE G) = some (21, [])) : CT G iJx4a65c_grow_92f84 d 1 10 [.ref a, .int 1] h (fun r h' => ∃ q, h q = none ∧ r = .inl (some (.ref q)) ∧ h' = aUp (aUp h q (14, List.replicate 10 .null)) a (alO m q n)) := by
  refine ct_of (L := [some (.ref a), some (.int 1), none, none]) (plainFor_of_name (by decide +kernel)) rfl hst rfl rfl (Nat.le_of_ble_eq_true rfl) ?_
  refine bJx4a65c_grow_92f84_0 (by omega) _ _ _ _ _ ?_
  try simp only [o_iadd, o_isub, o_imul, o_iand, o_ladd, o_lsub, o_lmul, o_land, o_lxor, o_ineg, o_lneg, o_i2l, o_l2i, o_i2f, o_l2d, o_lcmp, o_dcmp, o_fcmp, o_ldiv, o_lrem, o_fdiv, o_ddiv, o_f2d, o_c, o_iload, o_lload, o_fload, o_dload, o_aload, o_istore, o_lstore, o_fstore, o_dstore, o_astore, o_iinc, o_dup, o_pop, o_dupx1, o_dup2, o_dup2l, o_ifeq, o_iceq, o_ifne, o_icne, o_iflt, o_iclt, o_ifge, o_icge, o_ifgt, o_icgt, o_ifle, o_icle, o_at, o_iret, o_lret, o_fret, o_dret, o_zret, o_cret, o_vret, o_aret, o_get, o_put, o_new, o_ald, o_iast, o_last, o_dast, o_aast, o_alen, o_newa, o_cast, o_acmpeq, o_acmpne, o_calls, o_callv, o_calln, o_calli, o_obj, o_throw, o_callh, o_sw, o_acopy, lg, lset1, lset2, lk, aPop, Value.category, List.map_cons, List.map_nil, List.sum_cons, List.sum_nil, Option.toList, List.cons_append, List.nil_append, true_and, and_true, aTFit, if_true, if_false, kV, eq_self, and_self]
  refine aObj.mk ha (aVal.mk rfl ?_)
  refine aArr.mk hE (by decide) ?_
  refine ⟨fun c => absurd c (by decide), fun _ => ?_⟩
  refine aObj.mk ha (aVal.mk rfl ?_)
  refine ⟨fun _ => ?_, fun c => absurd rfl c⟩
  refine bJx4a65c_grow_92f84_45 (by omega) _ _ _ _ _ ?_
  try simp only [o_iadd, o_isub, o_imul, o_iand, o_ladd, o_lsub, o_lmul, o_land, o_lxor, o_ineg, o_lneg, o_i2l, o_l2i, o_i2f, o_l2d, o_lcmp, o_dcmp, o_fcmp, o_ldiv, o_lrem, o_fdiv, o_ddiv, o_f2d, o_c, o_iload, o_lload, o_fload, o_dload, o_aload, o_istore, o_lstore, o_fstore, o_dstore, o_astore, o_iinc, o_dup, o_pop, o_dupx1, o_dup2, o_dup2l, o_ifeq, o_iceq, o_ifne, o_icne, o_iflt, o_iclt, o_ifge, o_icge, o_ifgt, o_icgt, o_ifle, o_icle, o_at, o_iret, o_lret, o_fret, o_dret, o_zret, o_cret, o_vret, o_aret, o_get, o_put, o_new, o_ald, o_iast, o_last, o_dast, o_aast, o_alen, o_newa, o_cast, o_acmpeq, o_acmpne, o_calls, o_callv, o_calln, o_calli, o_obj, o_throw, o_callh, o_sw, o_acopy, lg, lset1, lset2, lk, aPop, Value.category, List.map_cons, List.map_nil, List.sum_cons, List.sum_nil, Option.toList, List.cons_append, List.nil_append, true_and, and_true, aTFit, if_true, if_false, kV, eq_self, and_self]
  refine ⟨by decide, aCt.mk (c_max hst (by omega) h 10 1) (Nat.zero_le _) (Nat.zero_le _) ?_⟩
  rintro r h' ⟨rfl, rfl⟩
  rw [show (if (10 : Int32) < 1 then (1 : Int32) else 10) = 10 from rfl]
  try simp only [o_iadd, o_isub, o_imul, o_iand, o_ladd, o_lsub, o_lmul, o_land, o_lxor, o_ineg, o_lneg, o_i2l, o_l2i, o_i2f, o_l2d, o_lcmp, o_dcmp, o_fcmp, o_ldiv, o_lrem, o_fdiv, o_ddiv, o_f2d, o_c, o_iload, o_lload, o_fload, o_dload, o_aload, o_istore, o_lstore, o_fstore, o_dstore, o_astore, o_iinc, o_dup, o_pop, o_dupx1, o_dup2, o_dup2l, o_ifeq, o_iceq, o_ifne, o_icne, o_iflt, o_iclt, o_ifge, o_icge, o_ifgt, o_icgt, o_ifle, o_icle, o_at, o_iret, o_lret, o_fret, o_dret, o_zret, o_cret, o_vret, o_aret, o_get, o_put, o_new, o_ald, o_iast, o_last, o_dast, o_aast, o_alen, o_newa, o_cast, o_acmpeq, o_acmpne, o_calls, o_callv, o_calln, o_calli, o_obj, o_throw, o_callh, o_sw, o_acopy, lg, lset1, lset2, lk, aPop, Value.category, List.map_cons, List.map_nil, List.sum_cons, List.sum_nil, Option.toList, List.cons_append, List.nil_append, true_and, and_true, aTFit, if_true, if_false, kV, eq_self, and_self]
  refine bJx4a65c_grow_92f84_52 (by omega) _ _ _ _ _ ?_
  try simp only [o_iadd, o_isub, o_imul, o_iand, o_ladd, o_lsub, o_lmul, o_land, o_lxor, o_ineg, o_lneg, o_i2l, o_l2i, o_i2f, o_l2d, o_lcmp, o_dcmp, o_fcmp, o_ldiv, o_lrem, o_fdiv, o_ddiv, o_f2d, o_c, o_iload, o_lload, o_fload, o_dload, o_aload, o_istore, o_lstore, o_fstore, o_dstore, o_astore, o_iinc, o_dup, o_pop, o_dupx1, o_dup2, o_dup2l, o_ifeq, o_iceq, o_ifne, o_icne, o_iflt, o_iclt, o_ifge, o_icge, o_ifgt, o_icgt, o_ifle, o_icle, o_at, o_iret, o_lret, o_fret, o_dret, o_zret, o_cret, o_vret, o_aret, o_get, o_put, o_new, o_ald, o_iast, o_last, o_dast, o_aast, o_alen, o_newa, o_cast, o_acmpeq, o_acmpne, o_calls, o_callv, o_calln, o_calli, o_obj, o_throw, o_callh, o_sw, o_acopy, lg, lset1, lset2, lk, aPop, Value.category, List.map_cons, List.map_nil, List.sum_cons, List.sum_nil, Option.toList, List.cons_append, List.nil_append, true_and, and_true, aTFit, if_true, if_false, kV, eq_self, and_self]
  refine ⟨by decide, by decide, by decide, by decide, fun q hq => ?_⟩
  refine aObj.mk ((aUp_ne (fr_ne ha hq)).trans ha) ⟨q, hq, rfl, rfl⟩
theorem c_algrow (hst : (gl G).stackTraces = false) (hd : 14 ≤ d) (h : aH) (a : Nat) (m : Int32) (ha : h a = some (alO m (gE G) 0)) (hE : h (gE G) = some (21, [])) : CT G iJx4a65c_grow_d5877 d 1 10 [.ref a] h (fun r h' => ∃ q, h q = none ∧ r = .inl (some (.ref q)) ∧ h' = aUp (aUp h q (14, List.replicate 10 .null)) a (alO m q 0)) := by
  refine ct_of (L := [some (.ref a)]) (plainFor_of_name (by decide +kernel)) rfl hst rfl rfl (Nat.le_of_ble_eq_true rfl) ?_
  refine bJx4a65c_grow_d5877_0 (by omega) _ _ _ _ _ ?_
  try simp only [o_iadd, o_isub, o_imul, o_iand, o_ladd, o_lsub, o_lmul, o_land, o_lxor, o_ineg, o_lneg, o_i2l, o_l2i, o_i2f, o_l2d, o_lcmp, o_dcmp, o_fcmp, o_ldiv, o_lrem, o_fdiv, o_ddiv, o_f2d, o_c, o_iload, o_lload, o_fload, o_dload, o_aload, o_istore, o_lstore, o_fstore, o_dstore, o_astore, o_iinc, o_dup, o_pop, o_dupx1, o_dup2, o_dup2l, o_ifeq, o_iceq, o_ifne, o_icne, o_iflt, o_iclt, o_ifge, o_icge, o_ifgt, o_icgt, o_ifle, o_icle, o_at, o_iret, o_lret, o_fret, o_dret, o_zret, o_cret, o_vret, o_aret, o_get, o_put, o_new, o_ald, o_iast, o_last, o_dast, o_aast, o_alen, o_newa, o_cast, o_acmpeq, o_acmpne, o_calls, o_callv, o_calln, o_calli, o_obj, o_throw, o_callh, o_sw, o_acopy, lg, lset1, lset2, lk, aPop, Value.category, List.map_cons, List.map_nil, List.sum_cons, List.sum_nil, Option.toList, List.cons_append, List.nil_append, true_and, and_true, aTFit, if_true, if_false, kV, eq_self, and_self]
  refine aObj.mk ha (aVal.mk rfl ?_)
  try simp only [o_iadd, o_isub, o_imul, o_iand, o_ladd, o_lsub, o_lmul, o_land, o_lxor, o_ineg, o_lneg, o_i2l, o_l2i, o_i2f, o_l2d, o_lcmp, o_dcmp, o_fcmp, o_ldiv, o_lrem, o_fdiv, o_ddiv, o_f2d, o_c, o_iload, o_lload, o_fload, o_dload, o_aload, o_istore, o_lstore, o_fstore, o_dstore, o_astore, o_iinc, o_dup, o_pop, o_dupx1, o_dup2, o_dup2l, o_ifeq, o_iceq, o_ifne, o_icne, o_iflt, o_iclt, o_ifge, o_icge, o_ifgt, o_icgt, o_ifle, o_icle, o_at, o_iret, o_lret, o_fret, o_dret, o_zret, o_cret, o_vret, o_aret, o_get, o_put, o_new, o_ald, o_iast, o_last, o_dast, o_aast, o_alen, o_newa, o_cast, o_acmpeq, o_acmpne, o_calls, o_callv, o_calln, o_calli, o_obj, o_throw, o_callh, o_sw, o_acopy, lg, lset1, lset2, lk, aPop, Value.category, List.map_cons, List.map_nil, List.sum_cons, List.sum_nil, Option.toList, List.cons_append, List.nil_append, true_and, and_true, aTFit, if_true, if_false, kV, eq_self, and_self]
  refine ⟨by decide, aKind.mk ha rfl, aCt.mk (c_algrow1 hst (by omega) h a m 0 ha hE) (Nat.le_refl _) (Nat.le_refl _) ?_⟩
  rintro r h' ⟨q, hq, rfl, rfl⟩
  try simp only [o_iadd, o_isub, o_imul, o_iand, o_ladd, o_lsub, o_lmul, o_land, o_lxor, o_ineg, o_lneg, o_i2l, o_l2i, o_i2f, o_l2d, o_lcmp, o_dcmp, o_fcmp, o_ldiv, o_lrem, o_fdiv, o_ddiv, o_f2d, o_c, o_iload, o_lload, o_fload, o_dload, o_aload, o_istore, o_lstore, o_fstore, o_dstore, o_astore, o_iinc, o_dup, o_pop, o_dupx1, o_dup2, o_dup2l, o_ifeq, o_iceq, o_ifne, o_icne, o_iflt, o_iclt, o_ifge, o_icge, o_ifgt, o_icgt, o_ifle, o_icle, o_at, o_iret, o_lret, o_fret, o_dret, o_zret, o_cret, o_vret, o_aret, o_get, o_put, o_new, o_ald, o_iast, o_last, o_dast, o_aast, o_alen, o_newa, o_cast, o_acmpeq, o_acmpne, o_calls, o_callv, o_calln, o_calli, o_obj, o_throw, o_callh, o_sw, o_acopy, lg, lset1, lset2, lk, aPop, Value.category, List.map_cons, List.map_nil, List.sum_cons, List.sum_nil, Option.toList, List.cons_append, List.nil_append, true_and, and_true, aTFit, if_true, if_false, kV, eq_self, and_self]
  refine bJx4a65c_grow_d5877_10 (by omega) _ _ _ _ _ ?_
  try simp only [o_iadd, o_isub, o_imul, o_iand, o_ladd, o_lsub, o_lmul, o_land, o_lxor, o_ineg, o_lneg, o_i2l, o_l2i, o_i2f, o_l2d, o_lcmp, o_dcmp, o_fcmp, o_ldiv, o_lrem, o_fdiv, o_ddiv, o_f2d, o_c, o_iload, o_lload, o_fload, o_dload, o_aload, o_istore, o_lstore, o_fstore, o_dstore, o_astore, o_iinc, o_dup, o_pop, o_dupx1, o_dup2, o_dup2l, o_ifeq, o_iceq, o_ifne, o_icne, o_iflt, o_iclt, o_ifge, o_icge, o_ifgt, o_icgt, o_ifle, o_icle, o_at, o_iret, o_lret, o_fret, o_dret, o_zret, o_cret, o_vret, o_aret, o_get, o_put, o_new, o_ald, o_iast, o_last, o_dast, o_aast, o_alen, o_newa, o_cast, o_acmpeq, o_acmpne, o_calls, o_callv, o_calln, o_calli, o_obj, o_throw, o_callh, o_sw, o_acopy, lg, lset1, lset2, lk, aPop, Value.category, List.map_cons, List.map_nil, List.sum_cons, List.sum_nil, Option.toList, List.cons_append, List.nil_append, true_and, and_true, aTFit, if_true, if_false, kV, eq_self, and_self]
  exact ⟨q, hq, rfl, rfl⟩
theorem alV_push {xs : List Nat} (hn : xs.length ≤ 9) (x : Nat) : (alV xs).set xs.length (.ref x) = alV (xs ++ [x]) := by
  unfold alV
  obtain ⟨k, hk⟩ : ∃ k, 10 - xs.length = k + 1 := ⟨9 - xs.length, by omega⟩
  rw [hk, List.length_append, List.length_singleton, show 10 - (xs.length + 1) = k by omega, List.replicate_succ, List.map_append, List.append_assoc]
  have h1 : xs.length = (xs.map Value.ref).length := by simp
  rw [List.set_append]
  simp
/-- add(E) where there is a row already -/
theorem c_aladd3 (hst : (gl G).stackTraces = false) (hd : 12 ≤ d) (h : aH) (a e x : Nat) (m : Int32) (xs : List Nat) (hn : xs.length ≤ 9) (ha : h a = some (alO m e (nI xs.length))) (he : h e = some (14, alV xs)) (hx : aKind h x (fun c => c = 2)) : CT G iJx4a65c_add_72be8 d 0 0 [.ref a, .ref x, .ref e, .int (nI xs.length)] h (fun r h' => r = .inl none ∧ h' = aUp (aUp h e (14, alV (xs ++ [x]))) a (alO m e (nI (xs.length + 1)))) := by
  refine ct_of (L := [some (.ref a), some (.ref x), some (.ref e), some (.int (nI xs.length))]) (plainFor_of_name (by decide +kernel)) rfl hst rfl rfl (Nat.le_of_ble_eq_true rfl) ?_
  refine bJx4a65c_add_72be8_0 (by omega) _ _ _ _ _ ?_
  try simp only [o_iadd, o_isub, o_imul, o_iand, o_ladd, o_lsub, o_lmul, o_land, o_lxor, o_ineg, o_lneg, o_i2l, o_l2i, o_i2f, o_l2d, o_lcmp, o_dcmp, o_fcmp, o_ldiv, o_lrem, o_fdiv, o_ddiv, o_f2d, o_c, o_iload, o_lload, o_fload, o_dload, o_aload, o_istore, o_lstore, o_fstore, o_dstore, o_astore, o_iinc, o_dup, o_pop, o_dupx1, o_dup2, o_dup2l, o_ifeq, o_iceq, o_ifne, o_icne, o_iflt, o_iclt, o_ifge, o_icge, o_ifgt, o_icgt, o_ifle, o_icle, o_at, o_iret, o_lret, o_fret, o_dret, o_zret, o_cret, o_vret, o_aret, o_get, o_put, o_new, o_ald, o_iast, o_last, o_dast, o_aast, o_alen, o_newa, o_cast, o_acmpeq, o_acmpne, o_calls, o_callv, o_calln, o_calli, o_obj, o_throw, o_callh, o_sw, o_acopy, lg, lset1, lset2, lk, aPop, Value.category, List.map_cons, List.map_nil, List.sum_cons, List.sum_nil, Option.toList, List.cons_append, List.nil_append, true_and, and_true, aTFit, if_true, if_false, kV, eq_self, and_self]
  refine aArr.mk he (by decide) ⟨fun _ => ?_, fun c => absurd c ?_⟩
  · refine bJx4a65c_add_72be8_11 (by omega) _ _ _ _ _ ?_
    try simp only [o_iadd, o_isub, o_imul, o_iand, o_ladd, o_lsub, o_lmul, o_land, o_lxor, o_ineg, o_lneg, o_i2l, o_l2i, o_i2f, o_l2d, o_lcmp, o_dcmp, o_fcmp, o_ldiv, o_lrem, o_fdiv, o_ddiv, o_f2d, o_c, o_iload, o_lload, o_fload, o_dload, o_aload, o_istore, o_lstore, o_fstore, o_dstore, o_astore, o_iinc, o_dup, o_pop, o_dupx1, o_dup2, o_dup2l, o_ifeq, o_iceq, o_ifne, o_icne, o_iflt, o_iclt, o_ifge, o_icge, o_ifgt, o_icgt, o_ifle, o_icle, o_at, o_iret, o_lret, o_fret, o_dret, o_zret, o_cret, o_vret, o_aret, o_get, o_put, o_new, o_ald, o_iast, o_last, o_dast, o_aast, o_alen, o_newa, o_cast, o_acmpeq, o_acmpne, o_calls, o_callv, o_calln, o_calli, o_obj, o_throw, o_callh, o_sw, o_acopy, lg, lset1, lset2, lk, aPop, Value.category, List.map_cons, List.map_nil, List.sum_cons, List.sum_nil, Option.toList, List.cons_append, List.nil_append, true_and, and_true, aTFit, if_true, if_false, kV, eq_self, and_self]
    obtain ⟨c2, vs2, hx2, rfl⟩ := hx.of
    refine aArr.mk he (by decide) ⟨aKind.mk hx2 rfl, aIn_nI (by rw [alV_len (by omega)]; omega) (by rw [alV_len (by omega)]; decide), ?_⟩
    rw [nI_clamp (by omega), alV_push hn]
    refine aObj.mk ((aUp_ne (kd_ne ha he (by decide))).trans ha) ?_
    rw [nI_1]
    rfl
  · rw [alV_len (by omega)]
    intro z
    have := (nI_eq (by omega) (by decide)).mp z
    omega
theorem c_aladd3E (hst : (gl G).stackTraces = false) (hd : 15 ≤ d) (h : aH) (a x : Nat) (m : Int32) (ha : h a = some (alO m (gE G) 0)) (hE : h (gE G) = some (21, [])) (hx : aKind h x (fun c => c = 2)) : CT G iJx4a65c_add_72be8 d 1 10 [.ref a, .ref x, .ref (gE G), .int 0] h (fun r h' => ∃ q, h q = none ∧ r = .inl none ∧ h' = aUp (aUp h q (14, alV [x])) a (alO m q 1)) := by
  refine ct_of (L := [some (.ref a), some (.ref x), some (.ref (gE G)), some (.int 0)]) (plainFor_of_name (by decide +kernel)) rfl hst rfl rfl (Nat.le_of_ble_eq_true rfl) ?_
  refine bJx4a65c_add_72be8_0 (by omega) _ _ _ _ _ ?_
  try simp only [o_iadd, o_isub, o_imul, o_iand, o_ladd, o_lsub, o_lmul, o_land, o_lxor, o_ineg, o_lneg, o_i2l, o_l2i, o_i2f, o_l2d, o_lcmp, o_dcmp, o_fcmp, o_ldiv, o_lrem, o_fdiv, o_ddiv, o_f2d, o_c, o_iload, o_lload, o_fload, o_dload, o_aload, o_istore, o_lstore, o_fstore, o_dstore, o_astore, o_iinc, o_dup, o_pop, o_dupx1, o_dup2, o_dup2l, o_ifeq, o_iceq, o_ifne, o_icne, o_iflt, o_iclt, o_ifge, o_icge, o_ifgt, o_icgt, o_ifle, o_icle, o_at, o_iret, o_lret, o_fret, o_dret, o_zret, o_cret, o_vret, o_aret, o_get, o_put, o_new, o_ald, o_iast, o_last, o_dast, o_aast, o_alen, o_newa, o_cast, o_acmpeq, o_acmpne, o_calls, o_callv, o_calln, o_calli, o_obj, o_throw, o_callh, o_sw, o_acopy, lg, lset1, lset2, lk, aPop, Value.category, List.map_cons, List.map_nil, List.sum_cons, List.sum_nil, Option.toList, List.cons_append, List.nil_append, true_and, and_true, aTFit, if_true, if_false, kV, eq_self, and_self]
  refine aArr.mk hE (by decide) ⟨fun c => absurd rfl c, fun _ => ?_⟩
  refine ⟨by decide, aKind.mk ha rfl, aCt.mk (c_algrow hst (by omega) h a m ha hE) (Nat.le_refl _) (Nat.le_refl _) ?_⟩
  rintro r h' ⟨q, hq, rfl, rfl⟩
  try simp only [o_iadd, o_isub, o_imul, o_iand, o_ladd, o_lsub, o_lmul, o_land, o_lxor, o_ineg, o_lneg, o_i2l, o_l2i, o_i2f, o_l2d, o_lcmp, o_dcmp, o_fcmp, o_ldiv, o_lrem, o_fdiv, o_ddiv, o_f2d, o_c, o_iload, o_lload, o_fload, o_dload, o_aload, o_istore, o_lstore, o_fstore, o_dstore, o_astore, o_iinc, o_dup, o_pop, o_dupx1, o_dup2, o_dup2l, o_ifeq, o_iceq, o_ifne, o_icne, o_iflt, o_iclt, o_ifge, o_icge, o_ifgt, o_icgt, o_ifle, o_icle, o_at, o_iret, o_lret, o_fret, o_dret, o_zret, o_cret, o_vret, o_aret, o_get, o_put, o_new, o_ald, o_iast, o_last, o_dast, o_aast, o_alen, o_newa, o_cast, o_acmpeq, o_acmpne, o_calls, o_callv, o_calln, o_calli, o_obj, o_throw, o_callh, o_sw, o_acopy, lg, lset1, lset2, lk, aPop, Value.category, List.map_cons, List.map_nil, List.sum_cons, List.sum_nil, Option.toList, List.cons_append, List.nil_append, true_and, and_true, aTFit, if_true, if_false, kV, eq_self, and_self]
  refine bJx4a65c_add_72be8_10 (by omega) _ _ _ _ _ ?_
  try simp only [o_iadd, o_isub, o_imul, o_iand, o_ladd, o_lsub, o_lmul, o_land, o_lxor, o_ineg, o_lneg, o_i2l, o_l2i, o_i2f, o_l2d, o_lcmp, o_dcmp, o_fcmp, o_ldiv, o_lrem, o_fdiv, o_ddiv, o_f2d, o_c, o_iload, o_lload, o_fload, o_dload, o_aload, o_istore, o_lstore, o_fstore, o_dstore, o_astore, o_iinc, o_dup, o_pop, o_dupx1, o_dup2, o_dup2l, o_ifeq, o_iceq, o_ifne, o_icne, o_iflt, o_iclt, o_ifge, o_icge, o_ifgt, o_icgt, o_ifle, o_icle, o_at, o_iret, o_lret, o_fret, o_dret, o_zret, o_cret, o_vret, o_aret, o_get, o_put, o_new, o_ald, o_iast, o_last, o_dast, o_aast, o_alen, o_newa, o_cast, o_acmpeq, o_acmpne, o_calls, o_callv, o_calln, o_calli, o_obj, o_throw, o_callh, o_sw, o_acopy, lg, lset1, lset2, lk, aPop, Value.category, List.map_cons, List.map_nil, List.sum_cons, List.sum_nil, Option.toList, List.cons_append, List.nil_append, true_and, and_true, aTFit, if_true, if_false, kV, eq_self, and_self]
  refine bJx4a65c_add_72be8_11 (by omega) _ _ _ _ _ ?_
  try simp only [o_iadd, o_isub, o_imul, o_iand, o_ladd, o_lsub, o_lmul, o_land, o_lxor, o_ineg, o_lneg, o_i2l, o_l2i, o_i2f, o_l2d, o_lcmp, o_dcmp, o_fcmp, o_ldiv, o_lrem, o_fdiv, o_ddiv, o_f2d, o_c, o_iload, o_lload, o_fload, o_dload, o_aload, o_istore, o_lstore, o_fstore, o_dstore, o_astore, o_iinc, o_dup, o_pop, o_dupx1, o_dup2, o_dup2l, o_ifeq, o_iceq, o_ifne, o_icne, o_iflt, o_iclt, o_ifge, o_icge, o_ifgt, o_icgt, o_ifle, o_icle, o_at, o_iret, o_lret, o_fret, o_dret, o_zret, o_cret, o_vret, o_aret, o_get, o_put, o_new, o_ald, o_iast, o_last, o_dast, o_aast, o_alen, o_newa, o_cast, o_acmpeq, o_acmpne, o_calls, o_callv, o_calln, o_calli, o_obj, o_throw, o_callh, o_sw, o_acopy, lg, lset1, lset2, lk, aPop, Value.category, List.map_cons, List.map_nil, List.sum_cons, List.sum_nil, Option.toList, List.cons_append, List.nil_append, true_and, and_true, aTFit, if_true, if_false, kV, eq_self, and_self]
  obtain ⟨c2, vs2, hx2, rfl⟩ := hx.of
  have hqa : q ≠ a := (fr_ne ha hq).symm
  have h1 : aUp (aUp h q (14, List.replicate 10 .null)) a (alO m q 0) q = some (14, List.replicate 10 .null) := (aUp_ne hqa).trans (aUp_eq _ _ _)
  have h2 : aUp (aUp h q (14, List.replicate 10 .null)) a (alO m q 0) x = some (2, vs2) := (aUp_ne (kd_ne hx2 ha (by decide))).trans ((aUp_ne (fr_ne hx2 hq)).trans hx2)
  refine aArr.mk h1 (by decide) ⟨aKind.mk h2 rfl, ⟨by decide, by decide⟩, ?_⟩
  refine aObj.mk ((aUp_ne hqa.symm).trans (aUp_eq _ _ _)) ?_
  refine ⟨q, hq, ?_⟩
  funext z
  simp only [aUp]
  split
  · rfl
  · split <;> rfl
/-- add(E) -/
theorem c_aladd (hst : (gl G).stackTraces = false) (hd : 16 ≤ d) (h : aH) (a e x : Nat) (xs : List Nat) (hl : isAL G h a e xs) (hn : xs.length < 9) (hx : aKind h x (fun c => c = 2)) : CT G iJx4a65c_add_9ea2d d 1 10 [.ref a, .ref x] h (fun r h' => ∃ (m' : Int32) (e' : Nat), r = .inl (some (.int 1)) ∧ h' = alUp G h a m' e' (xs ++ [x]) ∧ e' ≠ gE G ∧ (e' = e ∨ h e' = none)) := by
  obtain ⟨hn9, ⟨m, ha⟩, hr⟩ := hl
  refine ct_of (L := [some (.ref a), some (.ref x)]) (plainFor_of_name (by decide +kernel)) rfl hst rfl rfl (Nat.le_of_ble_eq_true rfl) ?_
  refine bJx4a65c_add_9ea2d_0 (by omega) _ _ _ _ _ ?_
  try simp only [o_iadd, o_isub, o_imul, o_iand, o_ladd, o_lsub, o_lmul, o_land, o_lxor, o_ineg, o_lneg, o_i2l, o_l2i, o_i2f, o_l2d, o_lcmp, o_dcmp, o_fcmp, o_ldiv, o_lrem, o_fdiv, o_ddiv, o_f2d, o_c, o_iload, o_lload, o_fload, o_dload, o_aload, o_istore, o_lstore, o_fstore, o_dstore, o_astore, o_iinc, o_dup, o_pop, o_dupx1, o_dup2, o_dup2l, o_ifeq, o_iceq, o_ifne, o_icne, o_iflt, o_iclt, o_ifge, o_icge, o_ifgt, o_icgt, o_ifle, o_icle, o_at, o_iret, o_lret, o_fret, o_dret, o_zret, o_cret, o_vret, o_aret, o_get, o_put, o_new, o_ald, o_iast, o_last, o_dast, o_aast, o_alen, o_newa, o_cast, o_acmpeq, o_acmpne, o_calls, o_callv, o_calln, o_calli, o_obj, o_throw, o_callh, o_sw, o_acopy, lg, lset1, lset2, lk, aPop, Value.category, List.map_cons, List.map_nil, List.sum_cons, List.sum_nil, Option.toList, List.cons_append, List.nil_append, true_and, and_true, aTFit, if_true, if_false, kV, eq_self, and_self]
  refine aObj.mk ha (aVal.mk rfl ?_)
  try simp only [o_iadd, o_isub, o_imul, o_iand, o_ladd, o_lsub, o_lmul, o_land, o_lxor, o_ineg, o_lneg, o_i2l, o_l2i, o_i2f, o_l2d, o_lcmp, o_dcmp, o_fcmp, o_ldiv, o_lrem, o_fdiv, o_ddiv, o_f2d, o_c, o_iload, o_lload, o_fload, o_dload, o_aload, o_istore, o_lstore, o_fstore, o_dstore, o_astore, o_iinc, o_dup, o_pop, o_dupx1, o_dup2, o_dup2l, o_ifeq, o_iceq, o_ifne, o_icne, o_iflt, o_iclt, o_ifge, o_icge, o_ifgt, o_icgt, o_ifle, o_icle, o_at, o_iret, o_lret, o_fret, o_dret, o_zret, o_cret, o_vret, o_aret, o_get, o_put, o_new, o_ald, o_iast, o_last, o_dast, o_aast, o_alen, o_newa, o_cast, o_acmpeq, o_acmpne, o_calls, o_callv, o_calln, o_calli, o_obj, o_throw, o_callh, o_sw, o_acopy, lg, lset1, lset2, lk, aPop, Value.category, List.map_cons, List.map_nil, List.sum_cons, List.sum_nil, Option.toList, List.cons_append, List.nil_append, true_and, and_true, aTFit, if_true, if_false, kV, eq_self, and_self]
  refine aObj.mk ha ?_
  refine aObj.mk (aUp_eq _ _ _) (aVal.mk rfl ?_)
  try simp only [o_iadd, o_isub, o_imul, o_iand, o_ladd, o_lsub, o_lmul, o_land, o_lxor, o_ineg, o_lneg, o_i2l, o_l2i, o_i2f, o_l2d, o_lcmp, o_dcmp, o_fcmp, o_ldiv, o_lrem, o_fdiv, o_ddiv, o_f2d, o_c, o_iload, o_lload, o_fload, o_dload, o_aload, o_istore, o_lstore, o_fstore, o_dstore, o_astore, o_iinc, o_dup, o_pop, o_dupx1, o_dup2, o_dup2l, o_ifeq, o_iceq, o_ifne, o_icne, o_iflt, o_iclt, o_ifge, o_icge, o_ifgt, o_icgt, o_ifle, o_icle, o_at, o_iret, o_lret, o_fret, o_dret, o_zret, o_cret, o_vret, o_aret, o_get, o_put, o_new, o_ald, o_iast, o_last, o_dast, o_aast, o_alen, o_newa, o_cast, o_acmpeq, o_acmpne, o_calls, o_callv, o_calln, o_calli, o_obj, o_throw, o_callh, o_sw, o_acopy, lg, lset1, lset2, lk, aPop, Value.category, List.map_cons, List.map_nil, List.sum_cons, List.sum_nil, Option.toList, List.cons_append, List.nil_append, true_and, and_true, aTFit, if_true, if_false, kV, eq_self, and_self]
  refine aObj.mk (aUp_eq _ _ _) (aVal.mk rfl ?_)
  try simp only [o_iadd, o_isub, o_imul, o_iand, o_ladd, o_lsub, o_lmul, o_land, o_lxor, o_ineg, o_lneg, o_i2l, o_l2i, o_i2f, o_l2d, o_lcmp, o_dcmp, o_fcmp, o_ldiv, o_lrem, o_fdiv, o_ddiv, o_f2d, o_c, o_iload, o_lload, o_fload, o_dload, o_aload, o_istore, o_lstore, o_fstore, o_dstore, o_astore, o_iinc, o_dup, o_pop, o_dupx1, o_dup2, o_dup2l, o_ifeq, o_iceq, o_ifne, o_icne, o_iflt, o_iclt, o_ifge, o_icge, o_ifgt, o_icgt, o_ifle, o_icle, o_at, o_iret, o_lret, o_fret, o_dret, o_zret, o_cret, o_vret, o_aret, o_get, o_put, o_new, o_ald, o_iast, o_last, o_dast, o_aast, o_alen, o_newa, o_cast, o_acmpeq, o_acmpne, o_calls, o_callv, o_calln, o_calli, o_obj, o_throw, o_callh, o_sw, o_acopy, lg, lset1, lset2, lk, aPop, Value.category, List.map_cons, List.map_nil, List.sum_cons, List.sum_nil, Option.toList, List.cons_append, List.nil_append, true_and, and_true, aTFit, if_true, if_false, kV, eq_self, and_self]
  refine ⟨by decide, aKind.mk (aUp_eq _ _ _) rfl, ?_⟩
  obtain ⟨c2, vs2, hx2, rfl⟩ := hx.of
  have hxa : x ≠ a := kd_ne hx2 ha (by decide)
  rcases hr with ⟨rfl, rfl, hE⟩ | ⟨hne, he⟩
  · refine aCt.mk (c_aladd3E hst (by omega) (aUp h a _) a x (m + 1) (aUp_eq _ _ _) ((aUp_ne (kd_ne hE ha (by decide))).trans hE) (aKind.mk ((aUp_ne hxa).trans hx2) rfl)) (Nat.le_refl _) (Nat.le_refl _) ?_
    rintro r h' ⟨q, hq, rfl, rfl⟩
    try simp only [o_iadd, o_isub, o_imul, o_iand, o_ladd, o_lsub, o_lmul, o_land, o_lxor, o_ineg, o_lneg, o_i2l, o_l2i, o_i2f, o_l2d, o_lcmp, o_dcmp, o_fcmp, o_ldiv, o_lrem, o_fdiv, o_ddiv, o_f2d, o_c, o_iload, o_lload, o_fload, o_dload, o_aload, o_istore, o_lstore, o_fstore, o_dstore, o_astore, o_iinc, o_dup, o_pop, o_dupx1, o_dup2, o_dup2l, o_ifeq, o_iceq, o_ifne, o_icne, o_iflt, o_iclt, o_ifge, o_icge, o_ifgt, o_icgt, o_ifle, o_icle, o_at, o_iret, o_lret, o_fret, o_dret, o_zret, o_cret, o_vret, o_aret, o_get, o_put, o_new, o_ald, o_iast, o_last, o_dast, o_aast, o_alen, o_newa, o_cast, o_acmpeq, o_acmpne, o_calls, o_callv, o_calln, o_calli, o_obj, o_throw, o_callh, o_sw, o_acopy, lg, lset1, lset2, lk, aPop, Value.category, List.map_cons, List.map_nil, List.sum_cons, List.sum_nil, Option.toList, List.cons_append, List.nil_append, true_and, and_true, aTFit, if_true, if_false, kV, eq_self, and_self]
    refine bJx4a65c_add_9ea2d_23 (by omega) _ _ _ _ _ ?_
    try simp only [o_iadd, o_isub, o_imul, o_iand, o_ladd, o_lsub, o_lmul, o_land, o_lxor, o_ineg, o_lneg, o_i2l, o_l2i, o_i2f, o_l2d, o_lcmp, o_dcmp, o_fcmp, o_ldiv, o_lrem, o_fdiv, o_ddiv, o_f2d, o_c, o_iload, o_lload, o_fload, o_dload, o_aload, o_istore, o_lstore, o_fstore, o_dstore, o_astore, o_iinc, o_dup, o_pop, o_dupx1, o_dup2, o_dup2l, o_ifeq, o_iceq, o_ifne, o_icne, o_iflt, o_iclt, o_ifge, o_icge, o_ifgt, o_icgt, o_ifle, o_icle, o_at, o_iret, o_lret, o_fret, o_dret, o_zret, o_cret, o_vret, o_aret, o_get, o_put, o_new, o_ald, o_iast, o_last, o_dast, o_aast, o_alen, o_newa, o_cast, o_acmpeq, o_acmpne, o_calls, o_callv, o_calln, o_calli, o_obj, o_throw, o_callh, o_sw, o_acopy, lg, lset1, lset2, lk, aPop, Value.category, List.map_cons, List.map_nil, List.sum_cons, List.sum_nil, Option.toList, List.cons_append, List.nil_append, true_and, and_true, aTFit, if_true, if_false, kV, eq_self, and_self]
    have hqa : q ≠ a := by
      rintro rfl
      rw [aUp_eq] at hq
      cases hq
    rw [aUp_ne hqa] at hq
    have hqE : q ≠ gE G := (fr_ne hE hq).symm
    refine ⟨Or.inr trivial, m + 1, q, ?_, hqE, Or.inr hq⟩
    rw [alUp, if_neg hqE, aUp_shadow]
    rfl
  · have hea : e ≠ a := kd_ne he ha (by decide)
    refine aCt.mk (c_aladd3 hst (by omega) (aUp h a _) a e x (m + 1) xs (by omega) (aUp_eq _ _ _) ((aUp_ne hea).trans he) (aKind.mk ((aUp_ne hxa).trans hx2) rfl)) (Nat.zero_le _) (Nat.zero_le _) ?_
    rintro r h' ⟨rfl, rfl⟩
    try simp only [o_iadd, o_isub, o_imul, o_iand, o_ladd, o_lsub, o_lmul, o_land, o_lxor, o_ineg, o_lneg, o_i2l, o_l2i, o_i2f, o_l2d, o_lcmp, o_dcmp, o_fcmp, o_ldiv, o_lrem, o_fdiv, o_ddiv, o_f2d, o_c, o_iload, o_lload, o_fload, o_dload, o_aload, o_istore, o_lstore, o_fstore, o_dstore, o_astore, o_iinc, o_dup, o_pop, o_dupx1, o_dup2, o_dup2l, o_ifeq, o_iceq, o_ifne, o_icne, o_iflt, o_iclt, o_ifge, o_icge, o_ifgt, o_icgt, o_ifle, o_icle, o_at, o_iret, o_lret, o_fret, o_dret, o_zret, o_cret, o_vret, o_aret, o_get, o_put, o_new, o_ald, o_iast, o_last, o_dast, o_aast, o_alen, o_newa, o_cast, o_acmpeq, o_acmpne, o_calls, o_callv, o_calln, o_calli, o_obj, o_throw, o_callh, o_sw, o_acopy, lg, lset1, lset2, lk, aPop, Value.category, List.map_cons, List.map_nil, List.sum_cons, List.sum_nil, Option.toList, List.cons_append, List.nil_append, true_and, and_true, aTFit, if_true, if_false, kV, eq_self, and_self]
    refine bJx4a65c_add_9ea2d_23 (by omega) _ _ _ _ _ ?_
    try simp only [o_iadd, o_isub, o_imul, o_iand, o_ladd, o_lsub, o_lmul, o_land, o_lxor, o_ineg, o_lneg, o_i2l, o_l2i, o_i2f, o_l2d, o_lcmp, o_dcmp, o_fcmp, o_ldiv, o_lrem, o_fdiv, o_ddiv, o_f2d, o_c, o_iload, o_lload, o_fload, o_dload, o_aload, o_istore, o_lstore, o_fstore, o_dstore, o_astore, o_iinc, o_dup, o_pop, o_dupx1, o_dup2, o_dup2l, o_ifeq, o_iceq, o_ifne, o_icne, o_iflt, o_iclt, o_ifge, o_icge, o_ifgt, o_icgt, o_ifle, o_icle, o_at, o_iret, o_lret, o_fret, o_dret, o_zret, o_cret, o_vret, o_aret, o_get, o_put, o_new, o_ald, o_iast, o_last, o_dast, o_aast, o_alen, o_newa, o_cast, o_acmpeq, o_acmpne, o_calls, o_callv, o_calln, o_calli, o_obj, o_throw, o_callh, o_sw, o_acopy, lg, lset1, lset2, lk, aPop, Value.category, List.map_cons, List.map_nil, List.sum_cons, List.sum_nil, Option.toList, List.cons_append, List.nil_append, true_and, and_true, aTFit, if_true, if_false, kV, eq_self, and_self]
    refine ⟨Or.inr trivial, m + 1, e, ?_, hne, Or.inl rfl⟩
    rw [alUp, if_neg hne, aUp_shadow, List.length_append]
    rfl
end AList2
section AList3
variable {G : gG} {d : Nat}
theorem nI_sub1 {n : Nat} (h : 1 ≤ n) : nI n - 1 = nI (n - 1) := by
  obtain ⟨k, rfl⟩ : ∃ k, n = k + 1 := ⟨n - 1, by omega⟩
  rw [Nat.add_sub_cancel]
  exact nI_pred k
theorem c_alrange (hst : (gl G).stackTraces = false) (hd : 12 ≤ d) (h : aH) (a e i n : Nat) (m : Int32) (ha : h a = some (alO m e (nI n))) (hn : n ≤ 9) (hi : i ≤ n) : CT G iJx4a65c_rangeCheckForAdd_d00df d 0 0 [.ref a, .int (nI i)] h (fun r h' => r = .inl none ∧ h' = h) := by
  refine ct_of (L := [some (.ref a), some (.int (nI i))]) (plainFor_of_name (by decide +kernel)) rfl hst rfl rfl (Nat.le_of_ble_eq_true rfl) ?_
  refine bJx4a65c_rangeCheckForAdd_d00df_0 (by omega) _ _ _ _ _ ?_
  try simp only [o_iadd, o_isub, o_imul, o_iand, o_ladd, o_lsub, o_lmul, o_land, o_lxor, o_ineg, o_lneg, o_i2l, o_l2i, o_i2f, o_l2d, o_lcmp, o_dcmp, o_fcmp, o_ldiv, o_lrem, o_fdiv, o_ddiv, o_f2d, o_c, o_iload, o_lload, o_fload, o_dload, o_aload, o_istore, o_lstore, o_fstore, o_dstore, o_astore, o_iinc, o_dup, o_pop, o_dupx1, o_dup2, o_dup2l, o_ifeq, o_iceq, o_ifne, o_icne, o_iflt, o_iclt, o_ifge, o_icge, o_ifgt, o_icgt, o_ifle, o_icle, o_at, o_iret, o_lret, o_fret, o_dret, o_zret, o_cret, o_vret, o_aret, o_get, o_put, o_new, o_ald, o_iast, o_last, o_dast, o_aast, o_alen, o_newa, o_cast, o_acmpeq, o_acmpne, o_calls, o_callv, o_calln, o_calli, o_obj, o_throw, o_callh, o_sw, o_acopy, lg, lset1, lset2, lk, aPop, Value.category, List.map_cons, List.map_nil, List.sum_cons, List.sum_nil, Option.toList, List.cons_append, List.nil_append, true_and, and_true, aTFit, if_true, if_false, kV, eq_self, and_self]
  refine aObj.mk ha (aVal.mk rfl ⟨fun c => absurd c (nI_nlt hi (by omega)), fun _ => ⟨fun _ => ?_, fun c => absurd (nI_pos' (by omega)) c⟩⟩)
  refine bJx4a65c_rangeCheckForAdd_d00df_25 (by omega) _ _ _ _ _ ?_
  try simp only [o_iadd, o_isub, o_imul, o_iand, o_ladd, o_lsub, o_lmul, o_land, o_lxor, o_ineg, o_lneg, o_i2l, o_l2i, o_i2f, o_l2d, o_lcmp, o_dcmp, o_fcmp, o_ldiv, o_lrem, o_fdiv, o_ddiv, o_f2d, o_c, o_iload, o_lload, o_fload, o_dload, o_aload, o_istore, o_lstore, o_fstore, o_dstore, o_astore, o_iinc, o_dup, o_pop, o_dupx1, o_dup2, o_dup2l, o_ifeq, o_iceq, o_ifne, o_icne, o_iflt, o_iclt, o_ifge, o_icge, o_ifgt, o_icgt, o_ifle, o_icle, o_at, o_iret, o_lret, o_fret, o_dret, o_zret, o_cret, o_vret, o_aret, o_get, o_put, o_new, o_ald, o_iast, o_last, o_dast, o_aast, o_alen, o_newa, o_cast, o_acmpeq, o_acmpne, o_calls, o_callv, o_calln, o_calli, o_obj, o_throw, o_callh, o_sw, o_acopy, lg, lset1, lset2, lk, aPop, Value.category, List.map_cons, List.map_nil, List.sum_cons, List.sum_nil, Option.toList, List.cons_append, List.nil_append, true_and, and_true, aTFit, if_true, if_false, kV, eq_self, and_self]
theorem alV_ins {xs : List Nat} {i x : Nat} (hn : xs.length ≤ 9) (hi : i ≤ xs.length) : (aCpy (alV xs) i (i + 1) (xs.length - i)).set i (.ref x) = alV (xs.insertIdx i x) := by
  have hl := alV_len (xs := xs) (by omega)
  have hlen : (xs.insertIdx i x).length = xs.length + 1 := List.length_insertIdx_of_le_length hi x
  apply List.ext_getElem?
  intro j
  have hl2 : (alV (xs.insertIdx i x)).length = 10 := alV_len (by omega)
  by_cases hj : j < 10
  · have hc : (aCpy (alV xs) i (i + 1) (xs.length - i)).length = 10 := by simp [aCpy, hl]
    rw [List.getElem?_set]
    by_cases e : i = j
    · subst e
      rw [if_pos rfl, if_pos (by omega), alV_get (by omega)]
      simp
    · rw [if_neg e]
      unfold aCpy
      rw [List.getElem?_map, List.getElem?_range (by omega)]
      simp only [Option.map_some]
      by_cases h1 : i + 1 ≤ j ∧ j < i + 1 + (xs.length - i)
      · rw [if_pos h1, alV_get (by omega), List.getD_eq_getElem?_getD, alV_get (by omega)]
        simp only [Option.getD_some]
        rw [List.getElem_insertIdx_of_gt (by omega)]
        congr 3
        omega
      · rw [if_neg h1]
        by_cases h2 : j < xs.length
        · rw [List.getD_eq_getElem?_getD, alV_get h2, alV_get (by omega)]
          simp only [Option.getD_some]
          rw [List.getElem_insertIdx_of_lt (by omega)]
        · have hz : ∀ (ys : List Nat), ys.length ≤ j → (alV ys)[j]? = some .null := by
            intro ys hy
            unfold alV
            rw [List.getElem?_append_right (by simpa using hy), List.getElem?_replicate, if_pos (by simp; omega)]
          rw [List.getD_eq_getElem?_getD, hz xs (by omega), hz _ (by omega)]
          rfl
  · rw [List.getElem?_eq_none (by rw [List.length_set]; simp [aCpy, hl]; omega), List.getElem?_eq_none (by omega)]
theorem alV_rem {xs : List Nat} {i : Nat} (hn : xs.length ≤ 10) (hi : i < xs.length) : ((if i < xs.length - 1 then aCpy (alV xs) (i + 1) i (xs.length - 1 - i) else alV xs).set (xs.length - 1) .null) = alV (xs.eraseIdx i) := by
  have hl := alV_len hn
  have hlen : (xs.eraseIdx i).length = xs.length - 1 := List.length_eraseIdx_of_lt hi
  have hl2 : (alV (xs.eraseIdx i)).length = 10 := alV_len (by omega)
  have hz : ∀ (ys : List Nat) (j : Nat), ys.length ≤ j → j < 10 → (alV ys)[j]? = some .null := by
    intro ys j hy hj
    unfold alV
    rw [List.getElem?_append_right (by simpa using hy), List.getElem?_replicate, if_pos (by simp; omega)]
  have hlc : (if i < xs.length - 1 then aCpy (alV xs) (i + 1) i (xs.length - 1 - i) else alV xs).length = 10 := by
    split
    · simp [aCpy, hl]
    · exact hl
  apply List.ext_getElem?
  intro j
  by_cases hj : j < 10
  · rw [List.getElem?_set]
    by_cases e : xs.length - 1 = j
    · rw [if_pos e, if_pos (by omega), hz _ _ (by omega) hj]
    · rw [if_neg e]
      by_cases h2 : j < xs.length - 1
      · rw [alV_get (by omega)]
        by_cases h0 : i < xs.length - 1
        · rw [if_pos h0]
          unfold aCpy
          rw [List.getElem?_map, List.getElem?_range (by omega)]
          simp only [Option.map_some]
          by_cases h1 : i ≤ j ∧ j < i + (xs.length - 1 - i)
          · rw [if_pos h1, List.getD_eq_getElem?_getD, alV_get (by omega)]
            simp only [Option.getD_some]
            rw [List.getElem_eraseIdx_of_ge _ (by omega)]
            congr 3
            omega
          · rw [if_neg h1, List.getD_eq_getElem?_getD, alV_get (by omega)]
            simp only [Option.getD_some]
            rw [List.getElem_eraseIdx_of_lt _ (by omega)]
        · rw [if_neg h0, alV_get (by omega), List.getElem_eraseIdx_of_lt _ (by omega)]
      · rw [hz _ _ (by omega) hj]
        by_cases h0 : i < xs.length - 1
        · rw [if_pos h0]
          unfold aCpy
          rw [List.getElem?_map, List.getElem?_range (by omega)]
          simp only [Option.map_some]
          rw [if_neg (by omega), List.getD_eq_getElem?_getD, hz _ _ (by omega) hj]
          rfl
        · rw [if_neg h0, hz _ _ (by omega) hj]
  · rw [List.getElem?_eq_none (by rw [List.length_set]; omega), List.getElem?_eq_none (by omega)]
end AList3
