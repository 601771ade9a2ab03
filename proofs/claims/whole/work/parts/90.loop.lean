/-! the law's loop: every step keeps the class and the reference together; the law from its entry -/
section Loop
variable {G : gG} {d mc ms : Nat} {K : aR → aH → Prop} {sc x m o oD : Nat} {V : List Value} {f : Nat → Int32} {S : Nat → sB} {h : aH}
theorem cmp6 {n i : Nat} (hn : n < 100000) (hi : i < 100000) : nI n - 6 < nI i ↔ n < i + 6 := by
  by_cases h : 6 ≤ n
  · have e : nI n - 6 = nI (n - 6) := nI_sub h
    rw [e]
    constructor
    · intro z
      by_cases c : n < i + 6
      · exact c
      · exact absurd z (nI_nlt (by omega) (by omega))
    · intro z
      exact nI_lt (by omega) (by omega)
  · have e : nI n - 6 < 0 := (by decide +kernel : ∀ k : Nat, k < 6 → nI k - 6 < 0) n (by omega)
    constructor
    · intro _
      omega
    · intro _
      exact Int32.lt_of_lt_of_le e (nI_pos' (by omega))
theorem law_step (hst : (gl G).stackTraces = false) (hd : 40 ≤ d) (hI : LInv G sc x m o oD V S h) (hf : ∀ j, j < V.length → V[j]? = some (.int (f j))) (hl : V.length < 100000) {i : Nat} (hi : i + 6 ≤ V.length) {a b c : Option Value} {kc ks : Nat} (hkc : 32 ≤ kc) (hks : 256 ≤ ks) (hN : lwN G d mc ms K sc x m o oD V i kc ks) : AW G iL_law d mc ms K kc ks 28 (lwL sc x m o oD i a b c) [] h := by
  have hs := hI.1.2.2.2.2
  have hD : AW G iL_law d mc ms K kc ks 2798 (lwL sc x m o oD i a b c) [] h := hN _ _ _ _ _ _ _ hI (by omega) (by omega)
  unfold lwL
  refine bL_law_28 (by omega) _ _ _ _ _ ?_
  try simp only [o_mna3, o_mna2, o_sfmt, o_sget, o_salen, o_sbald, o_i2c, o_callS, o_iadd, o_isub, o_imul, o_iand, o_ladd, o_lsub, o_lmul, o_land, o_lxor, o_ineg, o_lneg, o_i2l, o_l2i, o_i2f, o_l2d, o_lcmp, o_dcmp, o_fcmp, o_ldiv, o_lrem, o_fdiv, o_ddiv, o_f2d, o_c, o_iload, o_lload, o_fload, o_dload, o_aload, o_istore, o_lstore, o_fstore, o_dstore, o_astore, o_iinc, o_dup, o_pop, o_dupx1, o_dup2, o_dup2l, o_ifeq, o_iceq, o_ifne, o_icne, o_iflt, o_iclt, o_ifge, o_icge, o_ifgt, o_icgt, o_ifle, o_icle, o_at, o_iret, o_lret, o_fret, o_dret, o_zret, o_cret, o_vret, o_aret, o_get, o_put, o_new, o_ald, o_iast, o_last, o_dast, o_aast, o_alen, o_newa, o_cast, o_acmpeq, o_acmpne, o_calls, o_callv, o_calln, o_calli, o_obj, o_throw, o_callh, o_sw, o_acopy, lg, lset1, lset2, lk, aPop, Value.category, List.map_cons, List.map_nil, List.sum_cons, List.sum_nil, Option.toList, List.cons_append, List.nil_append, true_and, and_true, aTFit, if_true, if_false, kV, eq_self, and_self]
  refine aArr.mk hs (by decide) ?_
  refine ⟨fun z => absurd ((cmp6 hl (by omega)).mp z) (by omega), fun _ => ?_⟩
  refine rdS hs hf hl 0 rfl (by omega) ?_
  try simp only [o_mna3, o_mna2, o_sfmt, o_sget, o_salen, o_sbald, o_i2c, o_callS, o_iadd, o_isub, o_imul, o_iand, o_ladd, o_lsub, o_lmul, o_land, o_lxor, o_ineg, o_lneg, o_i2l, o_l2i, o_i2f, o_l2d, o_lcmp, o_dcmp, o_fcmp, o_ldiv, o_lrem, o_fdiv, o_ddiv, o_f2d, o_c, o_iload, o_lload, o_fload, o_dload, o_aload, o_istore, o_lstore, o_fstore, o_dstore, o_astore, o_iinc, o_dup, o_pop, o_dupx1, o_dup2, o_dup2l, o_ifeq, o_iceq, o_ifne, o_icne, o_iflt, o_iclt, o_ifge, o_icge, o_ifgt, o_icgt, o_ifle, o_icle, o_at, o_iret, o_lret, o_fret, o_dret, o_zret, o_cret, o_vret, o_aret, o_get, o_put, o_new, o_ald, o_iast, o_last, o_dast, o_aast, o_alen, o_newa, o_cast, o_acmpeq, o_acmpne, o_calls, o_callv, o_calln, o_calli, o_obj, o_throw, o_callh, o_sw, o_acopy, lg, lset1, lset2, lk, aPop, Value.category, List.map_cons, List.map_nil, List.sum_cons, List.sum_nil, Option.toList, List.cons_append, List.nil_append, true_and, and_true, aTFit, if_true, if_false, kV, eq_self, and_self]
  exact ⟨fun _ => lw_cutBy hst hd hI hf hl hi hkc hks hN, fun _ => ⟨fun _ => lw_way hst hd hI hf hl hi hkc hks hN, fun _ => ⟨fun _ => lw_line hst hd hI hf hl hi hkc hks hN, fun _ => ⟨fun _ => lw_rate hst hd hI hf hl hi hkc hks hN, fun _ => ⟨fun _ => lw_remove hst hd hI hf hl hi hkc hks hN, fun _ => ⟨fun _ => lw_move hst hd hI hf hl hi hkc hks hN, fun _ => ⟨fun _ => lw_sort hst hd hI hf hl hi hkc hks hN, fun _ => ⟨fun _ => lw_split hst hd hI hf hl hi hkc hks hN, fun _ => ⟨fun _ => lw_copy hst hd hI hf hl hi hkc hks hN, fun _ => ⟨fun _ => lw_lines hst hd hI hf hl hi hkc hks hN, fun _ => ⟨fun _ => lw_isSame hst hd hI hf hl hi hkc hks hN, fun _ => ⟨fun _ => lw_exact hst hd hI hf hl hi hkc hks hN, fun _ => ⟨fun _ => lw_whole hst hd hI hf hl hi hkc hks hN, fun _ => ⟨fun _ => lw_total hst hd hI hf hl hi hkc hks hN, fun _ => ⟨fun _ => lw_alone hst hd hI hf hl hi hkc hks hN, fun _ => ⟨fun _ => lw_byRests hst hd hI hf hl hi hkc hks hN, fun _ => ⟨fun _ => lw_carried hst hd hI hf hl hi hkc hks hN, fun _ => ⟨fun _ => lw_rank hst hd hI hf hl hi hkc hks hN, fun _ => ⟨fun _ => lw_raised hst hd hI hf hl hi hkc hks hN, fun _ => ⟨fun _ => lw_gap hst hd hI hf hl hi hkc hks hN, fun _ => ⟨fun _ => lw_off hst hd hI hf hl hi hkc hks hN, fun _ => ⟨fun _ => lw_close hst hd hI hf hl hi hkc hks hN, fun _ => ⟨fun _ => lw_told hst hd hI hf hl hi hkc hks hN, fun _ => ⟨fun _ => lw_correct hst hd hI hf hl hi hkc hks hN, fun _ => ⟨fun _ => lw_open hst hd hI hf hl hi hkc hks hN, fun _ => ⟨fun _ => lw_onTop hst hd hI hf hl hi hkc hks hN, fun _ => ⟨fun _ => lw_within hst hd hI hf hl hi hkc hks hN, fun _ => ⟨fun _ => lw_undone hst hd hI hf hl hi hkc hks hN, fun _ => ⟨fun _ => lw_redone hst hd hI hf hl hi hkc hks hN, fun _ => ⟨fun _ => lw_abroad hst hd hI hf hl hi hkc hks hN, fun _ => ⟨fun _ => lw_home hst hd hI hf hl hi hkc hks hN, fun _ => ⟨fun _ => lw_bound hst hd hI hf hl hi hkc hks hN, fun _ => ⟨fun _ => lw_share hst hd hI hf hl hi hkc hks hN, fun _ => ⟨fun _ => lw_raisedShare hst hd hI hf hl hi hkc hks hN, fun _ => ⟨fun _ => lw_checksum hst hd hI hN, fun _ => ⟨fun _ => lw_isSound hst hd hI hf hl hi hkc hks hN, fun _ => hD⟩⟩⟩⟩⟩⟩⟩⟩⟩⟩⟩⟩⟩⟩⟩⟩⟩⟩⟩⟩⟩⟩⟩⟩⟩⟩⟩⟩⟩⟩⟩⟩⟩⟩⟩⟩
theorem law_end {i : Nat} {a b c : Option Value} {kc ks : Nat} (hs : h sc = some (20, V)) (hl : V.length < 100000) (hi : i < 100000) (hi2 : V.length < i + 6) (hK : ∀ h', K (.inl (some (.int 1))) h') (hd : 12 ≤ d) : AW G iL_law d mc ms K kc ks 28 (lwL sc x m o oD i a b c) [] h := by
  unfold lwL
  refine bL_law_28 (by omega) _ _ _ _ _ ?_
  try simp only [o_mna3, o_mna2, o_sfmt, o_sget, o_salen, o_sbald, o_i2c, o_callS, o_iadd, o_isub, o_imul, o_iand, o_ladd, o_lsub, o_lmul, o_land, o_lxor, o_ineg, o_lneg, o_i2l, o_l2i, o_i2f, o_l2d, o_lcmp, o_dcmp, o_fcmp, o_ldiv, o_lrem, o_fdiv, o_ddiv, o_f2d, o_c, o_iload, o_lload, o_fload, o_dload, o_aload, o_istore, o_lstore, o_fstore, o_dstore, o_astore, o_iinc, o_dup, o_pop, o_dupx1, o_dup2, o_dup2l, o_ifeq, o_iceq, o_ifne, o_icne, o_iflt, o_iclt, o_ifge, o_icge, o_ifgt, o_icgt, o_ifle, o_icle, o_at, o_iret, o_lret, o_fret, o_dret, o_zret, o_cret, o_vret, o_aret, o_get, o_put, o_new, o_ald, o_iast, o_last, o_dast, o_aast, o_alen, o_newa, o_cast, o_acmpeq, o_acmpne, o_calls, o_callv, o_calln, o_calli, o_obj, o_throw, o_callh, o_sw, o_acopy, lg, lset1, lset2, lk, aPop, Value.category, List.map_cons, List.map_nil, List.sum_cons, List.sum_nil, Option.toList, List.cons_append, List.nil_append, true_and, and_true, aTFit, if_true, if_false, kV, eq_self, and_self]
  refine aArr.mk hs (by decide) ?_
  refine ⟨fun _ => ?_, fun z => absurd ((cmp6 hl hi).mpr hi2) z⟩
  refine bL_law_2804 (by omega) _ _ _ _ _ ?_
  try simp only [o_mna3, o_mna2, o_sfmt, o_sget, o_salen, o_sbald, o_i2c, o_callS, o_iadd, o_isub, o_imul, o_iand, o_ladd, o_lsub, o_lmul, o_land, o_lxor, o_ineg, o_lneg, o_i2l, o_l2i, o_i2f, o_l2d, o_lcmp, o_dcmp, o_fcmp, o_ldiv, o_lrem, o_fdiv, o_ddiv, o_f2d, o_c, o_iload, o_lload, o_fload, o_dload, o_aload, o_istore, o_lstore, o_fstore, o_dstore, o_astore, o_iinc, o_dup, o_pop, o_dupx1, o_dup2, o_dup2l, o_ifeq, o_iceq, o_ifne, o_icne, o_iflt, o_iclt, o_ifge, o_icge, o_ifgt, o_icgt, o_ifle, o_icle, o_at, o_iret, o_lret, o_fret, o_dret, o_zret, o_cret, o_vret, o_aret, o_get, o_put, o_new, o_ald, o_iast, o_last, o_dast, o_aast, o_alen, o_newa, o_cast, o_acmpeq, o_acmpne, o_calls, o_callv, o_calln, o_calli, o_obj, o_throw, o_callh, o_sw, o_acopy, lg, lset1, lset2, lk, aPop, Value.category, List.map_cons, List.map_nil, List.sum_cons, List.sum_nil, Option.toList, List.cons_append, List.nil_append, true_and, and_true, aTFit, if_true, if_false, kV, eq_self, and_self]
  first | exact ⟨Or.inr trivial, hK _⟩ | exact ⟨Or.inr rfl, hK _⟩ | exact hK _
theorem law_loop (hst : (gl G).stackTraces = false) (hd : 40 ≤ d) (hf : ∀ j, j < V.length → V[j]? = some (.int (f j))) (hl : V.length < 10000) (hK : ∀ h', K (.inl (some (.int 1))) h') : ∀ (n i : Nat), V.length < i + 6 * n + 6 → i ≤ V.length + 6 → ∀ (S : Nat → sB) (h : aH) (a b c : Option Value) (kc ks : Nat), LInv G sc x m o oD V S h → 32 * n ≤ kc → 256 * n ≤ ks → AW G iL_law d mc ms K kc ks 28 (lwL sc x m o oD i a b c) [] h
  | 0, i, hn, hin, S, h, a, b, c, kc, ks, hI, h1, h2 => law_end hI.1.2.2.2.2 (by omega) (by omega) (by omega) hK (by omega)
  | n + 1, i, hn, hin, S, h, a, b, c, kc, ks, hI, h1, h2 => by
    by_cases c9 : V.length < i + 6
    · exact law_end hI.1.2.2.2.2 (by omega) (by omega) c9 hK (by omega)
    · refine law_step hst hd hI hf (by omega) (by omega) (by omega) (by omega) ?_
      intro S' h' a' b' c' kc' ks' hI' g1 g2
      unfold lwL
      refine bL_law_2798 (by omega) _ _ _ _ _ ?_
      try simp only [o_mna3, o_mna2, o_sfmt, o_sget, o_salen, o_sbald, o_i2c, o_callS, o_iadd, o_isub, o_imul, o_iand, o_ladd, o_lsub, o_lmul, o_land, o_lxor, o_ineg, o_lneg, o_i2l, o_l2i, o_i2f, o_l2d, o_lcmp, o_dcmp, o_fcmp, o_ldiv, o_lrem, o_fdiv, o_ddiv, o_f2d, o_c, o_iload, o_lload, o_fload, o_dload, o_aload, o_istore, o_lstore, o_fstore, o_dstore, o_astore, o_iinc, o_dup, o_pop, o_dupx1, o_dup2, o_dup2l, o_ifeq, o_iceq, o_ifne, o_icne, o_iflt, o_iclt, o_ifge, o_icge, o_ifgt, o_icgt, o_ifle, o_icle, o_at, o_iret, o_lret, o_fret, o_dret, o_zret, o_cret, o_vret, o_aret, o_get, o_put, o_new, o_ald, o_iast, o_last, o_dast, o_aast, o_alen, o_newa, o_cast, o_acmpeq, o_acmpne, o_calls, o_callv, o_calln, o_calli, o_obj, o_throw, o_callh, o_sw, o_acopy, lg, lset1, lset2, lk, aPop, Value.category, List.map_cons, List.map_nil, List.sum_cons, List.sum_nil, Option.toList, List.cons_append, List.nil_append, true_and, and_true, aTFit, if_true, if_false, kV, eq_self, and_self]
      rw [show nI i + 6 = nI (i + 6) from nI_add i 6]
      exact law_loop hst hd hf hl hK n (i + 6) (by omega) (by omega) S' h' a' b' c' kc' ks' hI' (by omega) (by omega)
theorem law_AW (hst : (gl G).stackTraces = false) (hd : 40 ≤ d) (hf : ∀ j, j < V.length → V[j]? = some (.int (f j))) (hl : V.length < 10000) (hK : ∀ h', K (.inl (some (.int 1))) h') (hs : h sc = some (20, V)) (hE : h (gE G) = some (21, [])) {kc ks : Nat} (hkc : 32 * V.length + 60 ≤ kc) (hks : 256 * V.length + 300 ≤ ks) : AW G iL_law d mc ms K kc ks 0 [some (.ref sc), none, none, none, none, none, none, none, none] [] h := by
  have e1 : (1 : Int32).toNatClampNeg = 1 := rfl
  refine bL_law_0 (by omega) _ _ _ _ _ ?_
  try simp only [o_mna3, o_mna2, o_sfmt, o_sget, o_salen, o_sbald, o_i2c, o_callS, o_iadd, o_isub, o_imul, o_iand, o_ladd, o_lsub, o_lmul, o_land, o_lxor, o_ineg, o_lneg, o_i2l, o_l2i, o_i2f, o_l2d, o_lcmp, o_dcmp, o_fcmp, o_ldiv, o_lrem, o_fdiv, o_ddiv, o_f2d, o_c, o_iload, o_lload, o_fload, o_dload, o_aload, o_istore, o_lstore, o_fstore, o_dstore, o_astore, o_iinc, o_dup, o_pop, o_dupx1, o_dup2, o_dup2l, o_ifeq, o_iceq, o_ifne, o_icne, o_iflt, o_iclt, o_ifge, o_icge, o_ifgt, o_icgt, o_ifle, o_icle, o_at, o_iret, o_lret, o_fret, o_dret, o_zret, o_cret, o_vret, o_aret, o_get, o_put, o_new, o_ald, o_iast, o_last, o_dast, o_aast, o_alen, o_newa, o_cast, o_acmpeq, o_acmpne, o_calls, o_callv, o_calln, o_calli, o_obj, o_throw, o_callh, o_sw, o_acopy, lg, lset1, lset2, lk, aPop, Value.category, List.map_cons, List.map_nil, List.sum_cons, List.sum_nil, Option.toList, List.cons_append, List.nil_append, true_and, and_true, aTFit, if_true, if_false, kV, eq_self, and_self]
  refine ⟨by omega, by omega, fun x hx => ?_⟩
  have sx : sc ≠ x := fr_ne hs hx
  have ex : gE G ≠ x := fr_ne hE hx
  refine ⟨Nat.le_of_ble_eq_true rfl, aCn.mk (f_init hst (by omega) _ x (aUp_eq _ _ _) ((aUp_ne ex).trans hE)) (by omega) (by omega) (by rintro E h' ⟨z, -⟩; cases z) ?_⟩
  rintro v h1 ⟨z, hC1, hk1⟩
  cases z
  have hs1 := hk1 _ _ ((aUp_ne sx).trans hs) sx
  try simp only [o_mna3, o_mna2, o_sfmt, o_sget, o_salen, o_sbald, o_i2c, o_callS, o_iadd, o_isub, o_imul, o_iand, o_ladd, o_lsub, o_lmul, o_land, o_lxor, o_ineg, o_lneg, o_i2l, o_l2i, o_i2f, o_l2d, o_lcmp, o_dcmp, o_fcmp, o_ldiv, o_lrem, o_fdiv, o_ddiv, o_f2d, o_c, o_iload, o_lload, o_fload, o_dload, o_aload, o_istore, o_lstore, o_fstore, o_dstore, o_astore, o_iinc, o_dup, o_pop, o_dupx1, o_dup2, o_dup2l, o_ifeq, o_iceq, o_ifne, o_icne, o_iflt, o_iclt, o_ifge, o_icge, o_ifgt, o_icgt, o_ifle, o_icle, o_at, o_iret, o_lret, o_fret, o_dret, o_zret, o_cret, o_vret, o_aret, o_get, o_put, o_new, o_ald, o_iast, o_last, o_dast, o_aast, o_alen, o_newa, o_cast, o_acmpeq, o_acmpne, o_calls, o_callv, o_calln, o_calli, o_obj, o_throw, o_callh, o_sw, o_acopy, lg, lset1, lset2, lk, aPop, Value.category, List.map_cons, List.map_nil, List.sum_cons, List.sum_nil, Option.toList, List.cons_append, List.nil_append, true_and, and_true, aTFit, if_true, if_false, kV, eq_self, and_self]
  refine bL_law_7 (by omega) _ _ _ _ _ ?_
  try simp only [o_mna3, o_mna2, o_sfmt, o_sget, o_salen, o_sbald, o_i2c, o_callS, o_iadd, o_isub, o_imul, o_iand, o_ladd, o_lsub, o_lmul, o_land, o_lxor, o_ineg, o_lneg, o_i2l, o_l2i, o_i2f, o_l2d, o_lcmp, o_dcmp, o_fcmp, o_ldiv, o_lrem, o_fdiv, o_ddiv, o_f2d, o_c, o_iload, o_lload, o_fload, o_dload, o_aload, o_istore, o_lstore, o_fstore, o_dstore, o_astore, o_iinc, o_dup, o_pop, o_dupx1, o_dup2, o_dup2l, o_ifeq, o_iceq, o_ifne, o_icne, o_iflt, o_iclt, o_ifge, o_icge, o_ifgt, o_icgt, o_ifle, o_icle, o_at, o_iret, o_lret, o_fret, o_dret, o_zret, o_cret, o_vret, o_aret, o_get, o_put, o_new, o_ald, o_iast, o_last, o_dast, o_aast, o_alen, o_newa, o_cast, o_acmpeq, o_acmpne, o_calls, o_callv, o_calln, o_calli, o_obj, o_throw, o_callh, o_sw, o_acopy, lg, lset1, lset2, lk, aPop, Value.category, List.map_cons, List.map_nil, List.sum_cons, List.sum_nil, Option.toList, List.cons_append, List.nil_append, true_and, and_true, aTFit, if_true, if_false, kV, eq_self, and_self]
  refine ⟨by omega, by omega, fun m hm => ?_⟩
  have hC2 : Cls G (aUp h1 m (3, [.null, .null, .null, .null, .null, .null, .int 0])) x sS0 := hC1.keep fun q k v e _ => (aUp_ne (fr_ne e hm)).trans e
  have hs2 : aUp h1 m (3, [.null, .null, .null, .null, .null, .null, .int 0]) sc = some (20, V) := (aUp_ne (fr_ne hs1 hm)).trans hs1
  refine ⟨Nat.le_of_ble_eq_true rfl, aCn.mk (g_init hst (by omega) (aUp_eq _ _ _)) (by omega) (by omega) (by rintro E h' ⟨z, -⟩; cases z) ?_⟩
  rintro v h3 ⟨z, tt, hR3, ht3, hk3⟩
  cases z
  have hC3 : Cls G h3 x sS0 := hC2.keep fun q k v e w => hk3 _ _ e (kd_ne e (aUp_eq h1 m (3, [.null, .null, .null, .null, .null, .null, .int 0])) (by omega))
  have hs3 := hk3 _ _ hs2 (kd_ne hs2 (aUp_eq h1 m (3, [.null, .null, .null, .null, .null, .null, .int 0])) (by decide))
  try simp only [o_mna3, o_mna2, o_sfmt, o_sget, o_salen, o_sbald, o_i2c, o_callS, o_iadd, o_isub, o_imul, o_iand, o_ladd, o_lsub, o_lmul, o_land, o_lxor, o_ineg, o_lneg, o_i2l, o_l2i, o_i2f, o_l2d, o_lcmp, o_dcmp, o_fcmp, o_ldiv, o_lrem, o_fdiv, o_ddiv, o_f2d, o_c, o_iload, o_lload, o_fload, o_dload, o_aload, o_istore, o_lstore, o_fstore, o_dstore, o_astore, o_iinc, o_dup, o_pop, o_dupx1, o_dup2, o_dup2l, o_ifeq, o_iceq, o_ifne, o_icne, o_iflt, o_iclt, o_ifge, o_icge, o_ifgt, o_icgt, o_ifle, o_icle, o_at, o_iret, o_lret, o_fret, o_dret, o_zret, o_cret, o_vret, o_aret, o_get, o_put, o_new, o_ald, o_iast, o_last, o_dast, o_aast, o_alen, o_newa, o_cast, o_acmpeq, o_acmpne, o_calls, o_callv, o_calln, o_calli, o_obj, o_throw, o_callh, o_sw, o_acopy, lg, lset1, lset2, lk, aPop, Value.category, List.map_cons, List.map_nil, List.sum_cons, List.sum_nil, Option.toList, List.cons_append, List.nil_append, true_and, and_true, aTFit, if_true, if_false, kV, eq_self, and_self]
  refine bL_law_15 (by omega) _ _ _ _ _ ?_
  try simp only [o_mna3, o_mna2, o_sfmt, o_sget, o_salen, o_sbald, o_i2c, o_callS, o_iadd, o_isub, o_imul, o_iand, o_ladd, o_lsub, o_lmul, o_land, o_lxor, o_ineg, o_lneg, o_i2l, o_l2i, o_i2f, o_l2d, o_lcmp, o_dcmp, o_fcmp, o_ldiv, o_lrem, o_fdiv, o_ddiv, o_f2d, o_c, o_iload, o_lload, o_fload, o_dload, o_aload, o_istore, o_lstore, o_fstore, o_dstore, o_astore, o_iinc, o_dup, o_pop, o_dupx1, o_dup2, o_dup2l, o_ifeq, o_iceq, o_ifne, o_icne, o_iflt, o_iclt, o_ifge, o_icge, o_ifgt, o_icgt, o_ifle, o_icle, o_at, o_iret, o_lret, o_fret, o_dret, o_zret, o_cret, o_vret, o_aret, o_get, o_put, o_new, o_ald, o_iast, o_last, o_dast, o_aast, o_alen, o_newa, o_cast, o_acmpeq, o_acmpne, o_calls, o_callv, o_calln, o_calli, o_obj, o_throw, o_callh, o_sw, o_acopy, lg, lset1, lset2, lk, aPop, Value.category, List.map_cons, List.map_nil, List.sum_cons, List.sum_nil, Option.toList, List.cons_append, List.nil_append, true_and, and_true, aTFit, if_true, if_false, kV, eq_self, and_self]
  refine ⟨by decide, by decide, by omega, by first | (show 1 ≤ _; omega) | omega, fun o ho => ?_⟩
  refine ⟨by decide, by decide, by omega, by first | (show 1 ≤ _; omega) | omega, fun oD hoD => ?_⟩
  have ho2 : aUp (aUp h3 o (11, List.replicate (1 : Int32).toNatClampNeg (.long 0))) oD (12, List.replicate (1 : Int32).toNatClampNeg (.double 0)) o = some (11, [.long 0]) := (aUp_ne (fr_ne (aUp_eq _ _ _) hoD)).trans (aUp_eq _ _ _)
  have hk4 : ∀ q c, h3 q = some c → aUp (aUp h3 o (11, List.replicate (1 : Int32).toNatClampNeg (.long 0))) oD (12, List.replicate (1 : Int32).toNatClampNeg (.double 0)) q = some c := fun q c e => by
    have e1 : aUp h3 o (11, List.replicate (1 : Int32).toNatClampNeg (.long 0)) q = some c := (aUp_ne (fr_ne e ho)).trans e
    exact (aUp_ne (fr_ne e1 hoD)).trans e1
  have htt : ∀ i, i < 3 → ∃ c, h3 (tt i) = some c := by
    intro i hi
    obtain ⟨P, W, C, Z, A, T, al, fx, -, -, -, -, -, -, -, hb, -⟩ := hR3
    obtain ⟨-, ⟨U, b3, -⟩, -⟩ := hb i hi
    exact ⟨_, b3⟩
  have hR4 : Mod (aUp (aUp h3 o (11, List.replicate (1 : Int32).toNatClampNeg (.long 0))) oD (12, List.replicate (1 : Int32).toNatClampNeg (.double 0))) m tt 0 sS0 := by
    obtain ⟨P, W, C, Z, A, T, al, fx, hA⟩ := hR3
    exact (hA.keep (hk4 _ _ hA.1) (fun q k v e _ => hk4 _ _ e)).mod
  refine law_loop hst hd hf hl hK V.length 0 (by omega) (by omega) sS0 _ none none none _ _ ⟨⟨hC3.keep fun q k v e _ => hk4 _ _ e, ⟨tt, 0, hR4, ?_, ?_⟩, ⟨_, ho2⟩, ⟨_, aUp_eq _ _ _⟩, hk4 _ _ hs3⟩, ?_⟩ (by omega) (by omega)
  · intro i hi
    obtain ⟨c, hc⟩ := htt i hi
    exact (fr_ne hc ho).symm
  · intro i hi
    obtain ⟨c, hc⟩ := htt i hi
    exact (fr_ne ((aUp_ne (fr_ne hc ho)).trans hc) hoD).symm
  · intro i hi z
    exact absurd rfl z
end Loop
