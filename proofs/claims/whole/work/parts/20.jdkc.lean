/-! contracts of the JDK's methods -/
section JdkC
variable {G : gG} {d : Nat}
def fD (x y : Int64) : Int64 := if (x ^^^ y) < 0 ∧ ¬ x / y * y = x then x / y - 1 else x / y
theorem c_floorDiv (hst : (gl G).stackTraces = false) (hd : 12 ≤ d) (h : aH) (x y : Int64) (hy : ¬ y = 0) : CT G iJ9_floorDiv_f86c9 d 0 0 [.long x, .long y] h (fun r h' => r = .inl (some (.long (fD x y))) ∧ h' = h) := by
  refine ct_of (L := [some (.long x), none, some (.long y), none, none, none]) (by decide +kernel) rfl hst rfl rfl (Nat.le_of_ble_eq_true rfl) ?_
  refine bJ9_floorDiv_f86c9_0 (by omega) _ _ _ _ _ ?_
  simp only [o_iadd, o_isub, o_imul, o_iand, o_ladd, o_lsub, o_lmul, o_land, o_lxor, o_ineg, o_lneg, o_i2l, o_l2i, o_i2f, o_l2d, o_lcmp, o_dcmp, o_fcmp, o_ldiv, o_lrem, o_fdiv, o_ddiv, o_f2d, o_c, o_iload, o_lload, o_fload, o_dload, o_aload, o_istore, o_lstore, o_fstore, o_dstore, o_astore, o_iinc, o_dup, o_pop, o_dupx1, o_dup2, o_dup2l, o_ifeq, o_iceq, o_ifne, o_icne, o_iflt, o_iclt, o_ifge, o_icge, o_ifgt, o_icgt, o_ifle, o_icle, o_at, o_iret, o_lret, o_fret, o_dret, o_zret, o_cret, o_vret, o_aret, o_get, o_put, o_new, o_ald, o_iast, o_last, o_dast, o_aast, o_alen, o_newa, o_cast, o_acmpeq, o_acmpne, o_calls, o_callv, o_calln, o_calli, o_obj, o_throw, o_callh, o_sw, o_acopy, lg, lset1, lset2, lk, aPop, Value.category, List.map_cons, List.map_nil, List.sum_cons, List.sum_nil, Option.toList, List.cons_append, List.nil_append, true_and, and_true, if_true, if_false]
  trace_state
  sorry
end JdkC
