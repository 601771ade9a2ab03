/-! share, raisedShare, the class's constructor -/
section Face17
variable {G : gG} {d : Nat}
theorem total_bd {B : sB} (hn : B.n ≤ 9) (hp : B.pl ≤ 3) (hok : ∀ i, i < B.n → (B.ls i).ok) : -4503599627370496 < totalZ B.e B.n B.L B.wy ∧ totalZ B.e B.n B.L B.wy < 4503599627370496 := by
  have hL := least_bd B.pl hp
  have h1 := sum_bd (e := B.e) (n := B.n) (by omega) fun i hi => ex_bd (hok i hi)
  have h2 := cut_ge (sumTo B.e B.n) B.L B.wy
  have h3 := cut_le (sumTo B.e B.n) B.L B.wy
  have h4 : -200000000000 ≤ sumTo B.e B.n / B.L := by
    rw [Int.le_ediv_iff_mul_le (by unfold sB.L; omega)]
    unfold sB.L
    omega
  have h5 : sumTo B.e B.n / B.L < 200000000001 := by
    rw [Int.ediv_lt_iff_lt_mul (by unfold sB.L; omega)]
    unfold sB.L
    omega
  unfold totalZ
  omega
theorem rests_bd {B : sB} {j : Nat} (hp : B.pl ≤ 3) (hok : (B.ls j).ok) : -4503599627370496 < byRestsZ B.e B.n B.L B.wy j ∧ byRestsZ B.e B.n B.L B.wy j < 4503599627370496 := by
  have hL := least_bd B.pl hp
  have h1 := Bg_fl (L := B.L) (by unfold sB.L; omega) (ex_bd hok)
  unfold byRestsZ floorZ
  have h2 : B.e j = (B.ls j).ex := rfl
  rw [h2]
  split <;> omega
abbrev aDbl (x : UInt64) : aR := .inl (some (.double x))
abbrev aFlt (x : UInt32) : aR := .inl (some (.float x))
theorem f_share (hst : (gl G).stackTraces = false) (hd : 18 ≤ d) (h : aH) {x : Nat} {S : Nat → sB} (hC : Cls G h x S) (bill at9 : Int32) : CT G iX2_share d 3 18 [.ref x, .int bill, .int at9] h (kT (spB S bill fun B => spI B.n at9 fun j => if totalZ B.e B.n B.L B.wy = 0 then .inr eAE else aDbl (FP.ddiv (FP.l2d (LI (byRestsZ B.e B.n B.L B.wy j))) (FP.l2d (LI (totalZ B.e B.n B.L B.wy))))) h) := by
  obtain ⟨q, fb, fa, fe, fx, hx, hq, hb, hD⟩ := hC
  refine ct_of (L := [some (.ref x), some (.int bill), some (.int at9), none, none, none]) (plainFor_of_name (by decide +kernel)) rfl hst rfl rfl (Nat.le_of_ble_eq_true rfl) ?_
  refine bX2_share_0 (by omega) _ _ _ _ _ ?_
  try simp only [o_iadd, o_isub, o_imul, o_iand, o_ladd, o_lsub, o_lmul, o_land, o_lxor, o_ineg, o_lneg, o_i2l, o_l2i, o_i2f, o_l2d, o_lcmp, o_dcmp, o_fcmp, o_ldiv, o_lrem, o_fdiv, o_ddiv, o_f2d, o_c, o_iload, o_lload, o_fload, o_dload, o_aload, o_istore, o_lstore, o_fstore, o_dstore, o_astore, o_iinc, o_dup, o_pop, o_dupx1, o_dup2, o_dup2l, o_ifeq, o_iceq, o_ifne, o_icne, o_iflt, o_iclt, o_ifge, o_icge, o_ifgt, o_icgt, o_ifle, o_icle, o_at, o_iret, o_lret, o_fret, o_dret, o_zret, o_cret, o_vret, o_aret, o_get, o_put, o_new, o_ald, o_iast, o_last, o_dast, o_aast, o_alen, o_newa, o_cast, o_acmpeq, o_acmpne, o_calls, o_callv, o_calln, o_calli, o_obj, o_throw, o_callh, o_sw, o_acopy, lg, lset1, lset2, lk, aPop, Value.category, List.map_cons, List.map_nil, List.sum_cons, List.sum_nil, Option.toList, List.cons_append, List.nil_append, true_and, and_true, aTFit, if_true, if_false, kV, eq_self, and_self]
  refine ⟨Nat.le_of_ble_eq_true rfl, aKind.mk hx rfl, aCt.mk (c_billAt hst (by omega) h x q _ _ _ bill hx hq) (by decide) (by decide) ?_⟩
  rintro r h1 ⟨⟨i, b, hi, rfl, hbi, rfl⟩ | ⟨hn, rfl⟩, hh⟩
  rotate_left
  · obtain rfl := hh.symm
    exact ⟨(spB_no hn).symm, rfl⟩
  obtain rfl := hh.symm
  obtain rfl := three hi hbi
  obtain ⟨hB, hlen⟩ := hb i hi
  obtain ⟨hb9, hal, hl, hnd, hpl, hwy, hcl, hok⟩ := id hB
  rw [spB_ok hi]
  try simp only [o_iadd, o_isub, o_imul, o_iand, o_ladd, o_lsub, o_lmul, o_land, o_lxor, o_ineg, o_lneg, o_i2l, o_l2i, o_i2f, o_l2d, o_lcmp, o_dcmp, o_fcmp, o_ldiv, o_lrem, o_fdiv, o_ddiv, o_f2d, o_c, o_iload, o_lload, o_fload, o_dload, o_aload, o_istore, o_lstore, o_fstore, o_dstore, o_astore, o_iinc, o_dup, o_pop, o_dupx1, o_dup2, o_dup2l, o_ifeq, o_iceq, o_ifne, o_icne, o_iflt, o_iclt, o_ifge, o_icge, o_ifgt, o_icgt, o_ifle, o_icle, o_at, o_iret, o_lret, o_fret, o_dret, o_zret, o_cret, o_vret, o_aret, o_get, o_put, o_new, o_ald, o_iast, o_last, o_dast, o_aast, o_alen, o_newa, o_cast, o_acmpeq, o_acmpne, o_calls, o_callv, o_calln, o_calli, o_obj, o_throw, o_callh, o_sw, o_acopy, lg, lset1, lset2, lk, aPop, Value.category, List.map_cons, List.map_nil, List.sum_cons, List.sum_nil, Option.toList, List.cons_append, List.nil_append, true_and, and_true, aTFit, if_true, if_false, kV, eq_self, and_self]
  refine bX2_share_5 (by omega) _ _ _ _ _ ?_
  try simp only [o_iadd, o_isub, o_imul, o_iand, o_ladd, o_lsub, o_lmul, o_land, o_lxor, o_ineg, o_lneg, o_i2l, o_l2i, o_i2f, o_l2d, o_lcmp, o_dcmp, o_fcmp, o_ldiv, o_lrem, o_fdiv, o_ddiv, o_f2d, o_c, o_iload, o_lload, o_fload, o_dload, o_aload, o_istore, o_lstore, o_fstore, o_dstore, o_astore, o_iinc, o_dup, o_pop, o_dupx1, o_dup2, o_dup2l, o_ifeq, o_iceq, o_ifne, o_icne, o_iflt, o_iclt, o_ifge, o_icge, o_ifgt, o_icgt, o_ifle, o_icle, o_at, o_iret, o_lret, o_fret, o_dret, o_zret, o_cret, o_vret, o_aret, o_get, o_put, o_new, o_ald, o_iast, o_last, o_dast, o_aast, o_alen, o_newa, o_cast, o_acmpeq, o_acmpne, o_calls, o_callv, o_calln, o_calli, o_obj, o_throw, o_callh, o_sw, o_acopy, lg, lset1, lset2, lk, aPop, Value.category, List.map_cons, List.map_nil, List.sum_cons, List.sum_nil, Option.toList, List.cons_append, List.nil_append, true_and, and_true, aTFit, if_true, if_false, kV, eq_self, and_self]
  refine ⟨Nat.le_of_ble_eq_true rfl, aCt.mk (c_checkLine hst (by omega) h hB at9) (by decide) (by decide) ?_⟩
  rintro r h1 ⟨⟨⟨j, hj, rfl⟩, rfl⟩ | ⟨hn, rfl⟩, hh⟩
  rotate_left
  · obtain rfl := hh.symm
    rw [hlen] at hn
    exact ⟨(spI_no hn).symm, rfl⟩
  obtain rfl := hh.symm
  rw [spI_ok (hlen ▸ hj) (by have := hal.1; omega)]
  try simp only [o_iadd, o_isub, o_imul, o_iand, o_ladd, o_lsub, o_lmul, o_land, o_lxor, o_ineg, o_lneg, o_i2l, o_l2i, o_i2f, o_l2d, o_lcmp, o_dcmp, o_fcmp, o_ldiv, o_lrem, o_fdiv, o_ddiv, o_f2d, o_c, o_iload, o_lload, o_fload, o_dload, o_aload, o_istore, o_lstore, o_fstore, o_dstore, o_astore, o_iinc, o_dup, o_pop, o_dupx1, o_dup2, o_dup2l, o_ifeq, o_iceq, o_ifne, o_icne, o_iflt, o_iclt, o_ifge, o_icge, o_ifgt, o_icgt, o_ifle, o_icle, o_at, o_iret, o_lret, o_fret, o_dret, o_zret, o_cret, o_vret, o_aret, o_get, o_put, o_new, o_ald, o_iast, o_last, o_dast, o_aast, o_alen, o_newa, o_cast, o_acmpeq, o_acmpne, o_calls, o_callv, o_calln, o_calli, o_obj, o_throw, o_callh, o_sw, o_acopy, lg, lset1, lset2, lk, aPop, Value.category, List.map_cons, List.map_nil, List.sum_cons, List.sum_nil, Option.toList, List.cons_append, List.nil_append, true_and, and_true, aTFit, if_true, if_false, kV, eq_self, and_self]
  refine bX2_share_11 (by omega) _ _ _ _ _ ?_
  try simp only [o_iadd, o_isub, o_imul, o_iand, o_ladd, o_lsub, o_lmul, o_land, o_lxor, o_ineg, o_lneg, o_i2l, o_l2i, o_i2f, o_l2d, o_lcmp, o_dcmp, o_fcmp, o_ldiv, o_lrem, o_fdiv, o_ddiv, o_f2d, o_c, o_iload, o_lload, o_fload, o_dload, o_aload, o_istore, o_lstore, o_fstore, o_dstore, o_astore, o_iinc, o_dup, o_pop, o_dupx1, o_dup2, o_dup2l, o_ifeq, o_iceq, o_ifne, o_icne, o_iflt, o_iclt, o_ifge, o_icge, o_ifgt, o_icgt, o_ifle, o_icle, o_at, o_iret, o_lret, o_fret, o_dret, o_zret, o_cret, o_vret, o_aret, o_get, o_put, o_new, o_ald, o_iast, o_last, o_dast, o_aast, o_alen, o_newa, o_cast, o_acmpeq, o_acmpne, o_calls, o_callv, o_calln, o_calli, o_obj, o_throw, o_callh, o_sw, o_acopy, lg, lset1, lset2, lk, aPop, Value.category, List.map_cons, List.map_nil, List.sum_cons, List.sum_nil, Option.toList, List.cons_append, List.nil_append, true_and, and_true, aTFit, if_true, if_false, kV, eq_self, and_self]
  refine ⟨Nat.le_of_ble_eq_true rfl, aKind.mk hb9 rfl, aCt.mk (c_cutWhole hst (by omega) h hB) (Nat.zero_le _) (Nat.zero_le _) ?_⟩
  rintro r h1 ⟨rfl, hh⟩
  obtain rfl := hh.symm
  try simp only [o_iadd, o_isub, o_imul, o_iand, o_ladd, o_lsub, o_lmul, o_land, o_lxor, o_ineg, o_lneg, o_i2l, o_l2i, o_i2f, o_l2d, o_lcmp, o_dcmp, o_fcmp, o_ldiv, o_lrem, o_fdiv, o_ddiv, o_f2d, o_c, o_iload, o_lload, o_fload, o_dload, o_aload, o_istore, o_lstore, o_fstore, o_dstore, o_astore, o_iinc, o_dup, o_pop, o_dupx1, o_dup2, o_dup2l, o_ifeq, o_iceq, o_ifne, o_icne, o_iflt, o_iclt, o_ifge, o_icge, o_ifgt, o_icgt, o_ifle, o_icle, o_at, o_iret, o_lret, o_fret, o_dret, o_zret, o_cret, o_vret, o_aret, o_get, o_put, o_new, o_ald, o_iast, o_last, o_dast, o_aast, o_alen, o_newa, o_cast, o_acmpeq, o_acmpne, o_calls, o_callv, o_calln, o_calli, o_obj, o_throw, o_callh, o_sw, o_acopy, lg, lset1, lset2, lk, aPop, Value.category, List.map_cons, List.map_nil, List.sum_cons, List.sum_nil, Option.toList, List.cons_append, List.nil_append, true_and, and_true, aTFit, if_true, if_false, kV, eq_self, and_self]
  refine bX2_share_15 (by omega) _ _ _ _ _ ?_
  try simp only [o_iadd, o_isub, o_imul, o_iand, o_ladd, o_lsub, o_lmul, o_land, o_lxor, o_ineg, o_lneg, o_i2l, o_l2i, o_i2f, o_l2d, o_lcmp, o_dcmp, o_fcmp, o_ldiv, o_lrem, o_fdiv, o_ddiv, o_f2d, o_c, o_iload, o_lload, o_fload, o_dload, o_aload, o_istore, o_lstore, o_fstore, o_dstore, o_astore, o_iinc, o_dup, o_pop, o_dupx1, o_dup2, o_dup2l, o_ifeq, o_iceq, o_ifne, o_icne, o_iflt, o_iclt, o_ifge, o_icge, o_ifgt, o_icgt, o_ifle, o_icle, o_at, o_iret, o_lret, o_fret, o_dret, o_zret, o_cret, o_vret, o_aret, o_get, o_put, o_new, o_ald, o_iast, o_last, o_dast, o_aast, o_alen, o_newa, o_cast, o_acmpeq, o_acmpne, o_calls, o_callv, o_calln, o_calli, o_obj, o_throw, o_callh, o_sw, o_acopy, lg, lset1, lset2, lk, aPop, Value.category, List.map_cons, List.map_nil, List.sum_cons, List.sum_nil, Option.toList, List.cons_append, List.nil_append, true_and, and_true, aTFit, if_true, if_false, kV, eq_self, and_self, lg_cmp_eq]
  rw [hlen]
  have hbd := total_bd (B := S i) (by have := hal.1; omega) hpl (fun k hk => hok k (by omega))
  have hbd2 := rests_bd (B := S i) (j := j) hpl (hok j hj)
  have hz := LI_eq0 (a := totalZ (S i).e (S i).n (S i).L (S i).wy) ⟨by omega, by omega⟩
  refine ⟨fun c => ?_, fun c => ?_⟩
  · rw [if_neg (fun z => c (hz.mpr z))]
    obtain ⟨n9, e9, hn9⟩ := fl_ddiv hbd2 hbd (fun z => c (hz.mpr z))
    refine bX2_share_34 (by omega) _ _ _ _ _ ?_
    try simp only [o_iadd, o_isub, o_imul, o_iand, o_ladd, o_lsub, o_lmul, o_land, o_lxor, o_ineg, o_lneg, o_i2l, o_l2i, o_i2f, o_l2d, o_lcmp, o_dcmp, o_fcmp, o_ldiv, o_lrem, o_fdiv, o_ddiv, o_f2d, o_c, o_iload, o_lload, o_fload, o_dload, o_aload, o_istore, o_lstore, o_fstore, o_dstore, o_astore, o_iinc, o_dup, o_pop, o_dupx1, o_dup2, o_dup2l, o_ifeq, o_iceq, o_ifne, o_icne, o_iflt, o_iclt, o_ifge, o_icge, o_ifgt, o_icgt, o_ifle, o_icle, o_at, o_iret, o_lret, o_fret, o_dret, o_zret, o_cret, o_vret, o_aret, o_get, o_put, o_new, o_ald, o_iast, o_last, o_dast, o_aast, o_alen, o_newa, o_cast, o_acmpeq, o_acmpne, o_calls, o_callv, o_calln, o_calli, o_obj, o_throw, o_callh, o_sw, o_acopy, lg, lset1, lset2, lk, aPop, Value.category, List.map_cons, List.map_nil, List.sum_cons, List.sum_nil, Option.toList, List.cons_append, List.nil_append, true_and, and_true, aTFit, if_true, if_false, kV, eq_self, and_self]
    refine ⟨Nat.le_of_ble_eq_true rfl, aKind.mk hb9 rfl, aCt.mk (c_byRestsAt hst (by omega) h hB j hj) (Nat.zero_le _) (Nat.zero_le _) ?_⟩
    rintro r h1 ⟨rfl, hh⟩
    obtain rfl := hh.symm
    try simp only [o_iadd, o_isub, o_imul, o_iand, o_ladd, o_lsub, o_lmul, o_land, o_lxor, o_ineg, o_lneg, o_i2l, o_l2i, o_i2f, o_l2d, o_lcmp, o_dcmp, o_fcmp, o_ldiv, o_lrem, o_fdiv, o_ddiv, o_f2d, o_c, o_iload, o_lload, o_fload, o_dload, o_aload, o_istore, o_lstore, o_fstore, o_dstore, o_astore, o_iinc, o_dup, o_pop, o_dupx1, o_dup2, o_dup2l, o_ifeq, o_iceq, o_ifne, o_icne, o_iflt, o_iclt, o_ifge, o_icge, o_ifgt, o_icgt, o_ifle, o_icle, o_at, o_iret, o_lret, o_fret, o_dret, o_zret, o_cret, o_vret, o_aret, o_get, o_put, o_new, o_ald, o_iast, o_last, o_dast, o_aast, o_alen, o_newa, o_cast, o_acmpeq, o_acmpne, o_calls, o_callv, o_calln, o_calli, o_obj, o_throw, o_callh, o_sw, o_acopy, lg, lset1, lset2, lk, aPop, Value.category, List.map_cons, List.map_nil, List.sum_cons, List.sum_nil, Option.toList, List.cons_append, List.nil_append, true_and, and_true, aTFit, if_true, if_false, kV, eq_self, and_self]
    refine bX2_share_39 (by omega) _ _ _ _ _ ?_
    try simp only [o_iadd, o_isub, o_imul, o_iand, o_ladd, o_lsub, o_lmul, o_land, o_lxor, o_ineg, o_lneg, o_i2l, o_l2i, o_i2f, o_l2d, o_lcmp, o_dcmp, o_fcmp, o_ldiv, o_lrem, o_fdiv, o_ddiv, o_f2d, o_c, o_iload, o_lload, o_fload, o_dload, o_aload, o_istore, o_lstore, o_fstore, o_dstore, o_astore, o_iinc, o_dup, o_pop, o_dupx1, o_dup2, o_dup2l, o_ifeq, o_iceq, o_ifne, o_icne, o_iflt, o_iclt, o_ifge, o_icge, o_ifgt, o_icgt, o_ifle, o_icle, o_at, o_iret, o_lret, o_fret, o_dret, o_zret, o_cret, o_vret, o_aret, o_get, o_put, o_new, o_ald, o_iast, o_last, o_dast, o_aast, o_alen, o_newa, o_cast, o_acmpeq, o_acmpne, o_calls, o_callv, o_calln, o_calli, o_obj, o_throw, o_callh, o_sw, o_acopy, lg, lset1, lset2, lk, aPop, Value.category, List.map_cons, List.map_nil, List.sum_cons, List.sum_nil, Option.toList, List.cons_append, List.nil_append, true_and, and_true, aTFit, if_true, if_false, kV, eq_self, and_self]
    rw [hlen]
    refine ⟨?_, rfl, rfl⟩
    rw [e9]
    exact fl_n64 hn9
  · have c9 : LI (totalZ (S i).e (S i).n (S i).L (S i).wy) = 0 := by first | exact c | exact Decidable.not_not.mp c
    rw [if_pos (hz.mp c9)]
    exact ⟨by decide, by decide, by decide, rfl, rfl⟩
def cntS (S : Nat → sB) : Nat → Nat
  | 0 => 0
  | k + 1 => cntS S k + (S k).n
def rsdS (S : Nat → sB) : Nat → Int
  | 0 => 0
  | k + 1 => rsdS S k + raisedZ (S k).e (S k).n (S k).L (S k).wy
theorem f_raisedShare (hst : (gl G).stackTraces = false) (hd : 18 ≤ d) (h : aH) {x : Nat} {S : Nat → sB} (hC : Cls G h x S) : CT G iX2_raisedShare d 1 6 [.ref x] h (kT (if cntS S 3 = 0 then .inr eAE else aFlt (FP.fdiv (FP.i2f (Int32.ofInt (rsdS S 3))) (FP.i2f (nI (cntS S 3))))) h) := by
  obtain ⟨q, fb, fa, fe, fx, hx, hq, hb, hD⟩ := hC
  have hbd : ∀ k, k ≤ 3 → cntS S k ≤ 9 * k ∧ ∃ r : Nat, r ≤ cntS S k ∧ rsdS S k = r := by
    intro k
    induction k with
    | zero => exact fun _ => ⟨Nat.le_refl _, 0, Nat.le_refl _, rfl⟩
    | succ k ih =>
      intro hk
      obtain ⟨h1, r, h2, h3⟩ := ih (by omega)
      obtain ⟨hB, hlen⟩ := hb k (by omega)
      have hn := hB.2.1.1
      have hL := least_bd (S k).pl hB.2.2.2.2.1
      obtain ⟨r2, h4, h5⟩ := raised_nI (S k).e (S k).n (L := (S k).L) (by unfold sB.L; omega) (S k).wy
      refine ⟨?_, r + r2, ?_, ?_⟩
      · show cntS S k + (S k).n ≤ _; omega
      · show _ ≤ cntS S k + (S k).n; omega
      · show rsdS S k + _ = _; rw [h3, h5]; omega
  refine ct_of (L := [some (.ref x), none, none, none]) (plainFor_of_name (by decide +kernel)) rfl hst rfl rfl (Nat.le_of_ble_eq_true rfl) ?_
  refine bX2_raisedShare_0 (by omega) _ _ _ _ _ ?_
  try simp only [o_iadd, o_isub, o_imul, o_iand, o_ladd, o_lsub, o_lmul, o_land, o_lxor, o_ineg, o_lneg, o_i2l, o_l2i, o_i2f, o_l2d, o_lcmp, o_dcmp, o_fcmp, o_ldiv, o_lrem, o_fdiv, o_ddiv, o_f2d, o_c, o_iload, o_lload, o_fload, o_dload, o_aload, o_istore, o_lstore, o_fstore, o_dstore, o_astore, o_iinc, o_dup, o_pop, o_dupx1, o_dup2, o_dup2l, o_ifeq, o_iceq, o_ifne, o_icne, o_iflt, o_iclt, o_ifge, o_icge, o_ifgt, o_icgt, o_ifle, o_icle, o_at, o_iret, o_lret, o_fret, o_dret, o_zret, o_cret, o_vret, o_aret, o_get, o_put, o_new, o_ald, o_iast, o_last, o_dast, o_aast, o_alen, o_newa, o_cast, o_acmpeq, o_acmpne, o_calls, o_callv, o_calln, o_calli, o_obj, o_throw, o_callh, o_sw, o_acopy, lg, lset1, lset2, lk, aPop, Value.category, List.map_cons, List.map_nil, List.sum_cons, List.sum_nil, Option.toList, List.cons_append, List.nil_append, true_and, and_true, aTFit, if_true, if_false, kV, eq_self, and_self]
  suffices H : ∀ (v k : Nat), k + v = 3 → aSo G iX2_raisedShare d _ _ _ (fun kc ks L st h1 => L = [some (.ref x), some (.int (Int32.ofInt (rsdS S k))), some (.int (nI (cntS S k))), some (.int (nI k))] ∧ st = [] ∧ 1 ≤ kc ∧ 6 ≤ ks ∧ h1 = h) 6 by
    exact H 3 0 rfl _ _ _ _ _ ⟨rfl, rfl, by decide, by decide, rfl⟩
  intro v
  induction v with
  | zero =>
    rintro k hk kc ks L st h1 ⟨rfl, rfl, hkc, hks, hh⟩
    obtain rfl := hh.symm
    obtain rfl : k = 3 := by omega
    obtain ⟨h1, r, h2, h3⟩ := hbd 3 (by omega)
    refine bX2_raisedShare_6 (by omega) _ _ _ _ _ ?_
    try simp only [o_iadd, o_isub, o_imul, o_iand, o_ladd, o_lsub, o_lmul, o_land, o_lxor, o_ineg, o_lneg, o_i2l, o_l2i, o_i2f, o_l2d, o_lcmp, o_dcmp, o_fcmp, o_ldiv, o_lrem, o_fdiv, o_ddiv, o_f2d, o_c, o_iload, o_lload, o_fload, o_dload, o_aload, o_istore, o_lstore, o_fstore, o_dstore, o_astore, o_iinc, o_dup, o_pop, o_dupx1, o_dup2, o_dup2l, o_ifeq, o_iceq, o_ifne, o_icne, o_iflt, o_iclt, o_ifge, o_icge, o_ifgt, o_icgt, o_ifle, o_icle, o_at, o_iret, o_lret, o_fret, o_dret, o_zret, o_cret, o_vret, o_aret, o_get, o_put, o_new, o_ald, o_iast, o_last, o_dast, o_aast, o_alen, o_newa, o_cast, o_acmpeq, o_acmpne, o_calls, o_callv, o_calln, o_calli, o_obj, o_throw, o_callh, o_sw, o_acopy, lg, lset1, lset2, lk, aPop, Value.category, List.map_cons, List.map_nil, List.sum_cons, List.sum_nil, Option.toList, List.cons_append, List.nil_append, true_and, and_true, aTFit, if_true, if_false, kV, eq_self, and_self]
    refine aObj.mk hx (aVal.mk rfl ?_)
    try simp only [o_iadd, o_isub, o_imul, o_iand, o_ladd, o_lsub, o_lmul, o_land, o_lxor, o_ineg, o_lneg, o_i2l, o_l2i, o_i2f, o_l2d, o_lcmp, o_dcmp, o_fcmp, o_ldiv, o_lrem, o_fdiv, o_ddiv, o_f2d, o_c, o_iload, o_lload, o_fload, o_dload, o_aload, o_istore, o_lstore, o_fstore, o_dstore, o_astore, o_iinc, o_dup, o_pop, o_dupx1, o_dup2, o_dup2l, o_ifeq, o_iceq, o_ifne, o_icne, o_iflt, o_iclt, o_ifge, o_icge, o_ifgt, o_icgt, o_ifle, o_icle, o_at, o_iret, o_lret, o_fret, o_dret, o_zret, o_cret, o_vret, o_aret, o_get, o_put, o_new, o_ald, o_iast, o_last, o_dast, o_aast, o_alen, o_newa, o_cast, o_acmpeq, o_acmpne, o_calls, o_callv, o_calln, o_calli, o_obj, o_throw, o_callh, o_sw, o_acopy, lg, lset1, lset2, lk, aPop, Value.category, List.map_cons, List.map_nil, List.sum_cons, List.sum_nil, Option.toList, List.cons_append, List.nil_append, true_and, and_true, aTFit, if_true, if_false, kV, eq_self, and_self]
    refine aArr.mk hq (by decide) ?_
    refine ⟨fun _ => ?_, fun c => absurd (nI_le (Nat.le_refl 3) (by decide)) c⟩
    refine bX2_raisedShare_48 (by omega) _ _ _ _ _ ?_
    try simp only [o_iadd, o_isub, o_imul, o_iand, o_ladd, o_lsub, o_lmul, o_land, o_lxor, o_ineg, o_lneg, o_i2l, o_l2i, o_i2f, o_l2d, o_lcmp, o_dcmp, o_fcmp, o_ldiv, o_lrem, o_fdiv, o_ddiv, o_f2d, o_c, o_iload, o_lload, o_fload, o_dload, o_aload, o_istore, o_lstore, o_fstore, o_dstore, o_astore, o_iinc, o_dup, o_pop, o_dupx1, o_dup2, o_dup2l, o_ifeq, o_iceq, o_ifne, o_icne, o_iflt, o_iclt, o_ifge, o_icge, o_ifgt, o_icgt, o_ifle, o_icle, o_at, o_iret, o_lret, o_fret, o_dret, o_zret, o_cret, o_vret, o_aret, o_get, o_put, o_new, o_ald, o_iast, o_last, o_dast, o_aast, o_alen, o_newa, o_cast, o_acmpeq, o_acmpne, o_calls, o_callv, o_calln, o_calli, o_obj, o_throw, o_callh, o_sw, o_acopy, lg, lset1, lset2, lk, aPop, Value.category, List.map_cons, List.map_nil, List.sum_cons, List.sum_nil, Option.toList, List.cons_append, List.nil_append, true_and, and_true, aTFit, if_true, if_false, kV, eq_self, and_self]
    refine ⟨fun c => ?_, fun c => ?_⟩
    · have c0 : ¬ cntS S 3 = 0 := fun z => c (by rw [z]; rfl)
      refine bX2_raisedShare_62 (by omega) _ _ _ _ _ ?_
      try simp only [o_iadd, o_isub, o_imul, o_iand, o_ladd, o_lsub, o_lmul, o_land, o_lxor, o_ineg, o_lneg, o_i2l, o_l2i, o_i2f, o_l2d, o_lcmp, o_dcmp, o_fcmp, o_ldiv, o_lrem, o_fdiv, o_ddiv, o_f2d, o_c, o_iload, o_lload, o_fload, o_dload, o_aload, o_istore, o_lstore, o_fstore, o_dstore, o_astore, o_iinc, o_dup, o_pop, o_dupx1, o_dup2, o_dup2l, o_ifeq, o_iceq, o_ifne, o_icne, o_iflt, o_iclt, o_ifge, o_icge, o_ifgt, o_icgt, o_ifle, o_icle, o_at, o_iret, o_lret, o_fret, o_dret, o_zret, o_cret, o_vret, o_aret, o_get, o_put, o_new, o_ald, o_iast, o_last, o_dast, o_aast, o_alen, o_newa, o_cast, o_acmpeq, o_acmpne, o_calls, o_callv, o_calln, o_calli, o_obj, o_throw, o_callh, o_sw, o_acopy, lg, lset1, lset2, lk, aPop, Value.category, List.map_cons, List.map_nil, List.sum_cons, List.sum_nil, Option.toList, List.cons_append, List.nil_append, true_and, and_true, aTFit, if_true, if_false, kV, eq_self, and_self]
      rw [if_neg c0, h3]
      have h9 := fl_small (a := r) (b := cntS S 3) (by omega) (by omega) c0
      exact ⟨h9.1, rfl, rfl⟩
    · have c9 : nI (cntS S 3) = 0 := by first | exact c | exact Decidable.not_not.mp c
      have c0 : cntS S 3 = 0 := (nI_eq (a := cntS S 3) (b := 0) (by omega) (by decide)).mp c9
      rw [if_pos c0]
      exact ⟨hkc, hks, by decide, rfl, rfl⟩
  | succ v ih =>
    rintro k hk kc ks L st h1 ⟨rfl, rfl, hkc, hks, hh⟩
    obtain rfl := hh.symm
    obtain ⟨hB, hlen⟩ := hb k (by omega)
    obtain ⟨hb9, ⟨-, ⟨m, ha⟩, -⟩, -⟩ := id hB
    have hv : ([Value.ref (fb 0), .ref (fb 1), .ref (fb 2)] : List Value)[k]? = some (.ref (fb k)) := by
      rcases k with _ | _ | _ | k
      · rfl
      · rfl
      · rfl
      · omega
    refine bX2_raisedShare_6 (by omega) _ _ _ _ _ ?_
    try simp only [o_iadd, o_isub, o_imul, o_iand, o_ladd, o_lsub, o_lmul, o_land, o_lxor, o_ineg, o_lneg, o_i2l, o_l2i, o_i2f, o_l2d, o_lcmp, o_dcmp, o_fcmp, o_ldiv, o_lrem, o_fdiv, o_ddiv, o_f2d, o_c, o_iload, o_lload, o_fload, o_dload, o_aload, o_istore, o_lstore, o_fstore, o_dstore, o_astore, o_iinc, o_dup, o_pop, o_dupx1, o_dup2, o_dup2l, o_ifeq, o_iceq, o_ifne, o_icne, o_iflt, o_iclt, o_ifge, o_icge, o_ifgt, o_icgt, o_ifle, o_icle, o_at, o_iret, o_lret, o_fret, o_dret, o_zret, o_cret, o_vret, o_aret, o_get, o_put, o_new, o_ald, o_iast, o_last, o_dast, o_aast, o_alen, o_newa, o_cast, o_acmpeq, o_acmpne, o_calls, o_callv, o_calln, o_calli, o_obj, o_throw, o_callh, o_sw, o_acopy, lg, lset1, lset2, lk, aPop, Value.category, List.map_cons, List.map_nil, List.sum_cons, List.sum_nil, Option.toList, List.cons_append, List.nil_append, true_and, and_true, aTFit, if_true, if_false, kV, eq_self, and_self]
    refine aObj.mk hx (aVal.mk rfl ?_)
    try simp only [o_iadd, o_isub, o_imul, o_iand, o_ladd, o_lsub, o_lmul, o_land, o_lxor, o_ineg, o_lneg, o_i2l, o_l2i, o_i2f, o_l2d, o_lcmp, o_dcmp, o_fcmp, o_ldiv, o_lrem, o_fdiv, o_ddiv, o_f2d, o_c, o_iload, o_lload, o_fload, o_dload, o_aload, o_istore, o_lstore, o_fstore, o_dstore, o_astore, o_iinc, o_dup, o_pop, o_dupx1, o_dup2, o_dup2l, o_ifeq, o_iceq, o_ifne, o_icne, o_iflt, o_iclt, o_ifge, o_icge, o_ifgt, o_icgt, o_ifle, o_icle, o_at, o_iret, o_lret, o_fret, o_dret, o_zret, o_cret, o_vret, o_aret, o_get, o_put, o_new, o_ald, o_iast, o_last, o_dast, o_aast, o_alen, o_newa, o_cast, o_acmpeq, o_acmpne, o_calls, o_callv, o_calln, o_calli, o_obj, o_throw, o_callh, o_sw, o_acopy, lg, lset1, lset2, lk, aPop, Value.category, List.map_cons, List.map_nil, List.sum_cons, List.sum_nil, Option.toList, List.cons_append, List.nil_append, true_and, and_true, aTFit, if_true, if_false, kV, eq_self, and_self]
    refine aArr.mk hq (by decide) ?_
    refine ⟨fun c => absurd c (nI_ge (b := 3) (by omega) (by decide)), fun _ => ?_⟩
    refine aObj.mk hx (aVal.mk rfl ?_)
    try simp only [o_iadd, o_isub, o_imul, o_iand, o_ladd, o_lsub, o_lmul, o_land, o_lxor, o_ineg, o_lneg, o_i2l, o_l2i, o_i2f, o_l2d, o_lcmp, o_dcmp, o_fcmp, o_ldiv, o_lrem, o_fdiv, o_ddiv, o_f2d, o_c, o_iload, o_lload, o_fload, o_dload, o_aload, o_istore, o_lstore, o_fstore, o_dstore, o_astore, o_iinc, o_dup, o_pop, o_dupx1, o_dup2, o_dup2l, o_ifeq, o_iceq, o_ifne, o_icne, o_iflt, o_iclt, o_ifge, o_icge, o_ifgt, o_icgt, o_ifle, o_icle, o_at, o_iret, o_lret, o_fret, o_dret, o_zret, o_cret, o_vret, o_aret, o_get, o_put, o_new, o_ald, o_iast, o_last, o_dast, o_aast, o_alen, o_newa, o_cast, o_acmpeq, o_acmpne, o_calls, o_callv, o_calln, o_calli, o_obj, o_throw, o_callh, o_sw, o_acopy, lg, lset1, lset2, lk, aPop, Value.category, List.map_cons, List.map_nil, List.sum_cons, List.sum_nil, Option.toList, List.cons_append, List.nil_append, true_and, and_true, aTFit, if_true, if_false, kV, eq_self, and_self]
    refine aArr.mk hq (by decide) ⟨by decide, nI_pos (by omega), ?_⟩
    rw [nI_clamp (by omega)]
    refine aVal.mk hv ?_
    try simp only [o_iadd, o_isub, o_imul, o_iand, o_ladd, o_lsub, o_lmul, o_land, o_lxor, o_ineg, o_lneg, o_i2l, o_l2i, o_i2f, o_l2d, o_lcmp, o_dcmp, o_fcmp, o_ldiv, o_lrem, o_fdiv, o_ddiv, o_f2d, o_c, o_iload, o_lload, o_fload, o_dload, o_aload, o_istore, o_lstore, o_fstore, o_dstore, o_astore, o_iinc, o_dup, o_pop, o_dupx1, o_dup2, o_dup2l, o_ifeq, o_iceq, o_ifne, o_icne, o_iflt, o_iclt, o_ifge, o_icge, o_ifgt, o_icgt, o_ifle, o_icle, o_at, o_iret, o_lret, o_fret, o_dret, o_zret, o_cret, o_vret, o_aret, o_get, o_put, o_new, o_ald, o_iast, o_last, o_dast, o_aast, o_alen, o_newa, o_cast, o_acmpeq, o_acmpne, o_calls, o_callv, o_calln, o_calli, o_obj, o_throw, o_callh, o_sw, o_acopy, lg, lset1, lset2, lk, aPop, Value.category, List.map_cons, List.map_nil, List.sum_cons, List.sum_nil, Option.toList, List.cons_append, List.nil_append, true_and, and_true, aTFit, if_true, if_false, kV, eq_self, and_self]
    refine ⟨Nat.le_of_ble_eq_true rfl, aKind.mk hb9 rfl, aCt.mk (c_countRaised hst (by omega) h hB) (Nat.zero_le _) (Nat.zero_le _) ?_⟩
    rintro r h1 ⟨rfl, hh⟩
    obtain rfl := hh.symm
    try simp only [o_iadd, o_isub, o_imul, o_iand, o_ladd, o_lsub, o_lmul, o_land, o_lxor, o_ineg, o_lneg, o_i2l, o_l2i, o_i2f, o_l2d, o_lcmp, o_dcmp, o_fcmp, o_ldiv, o_lrem, o_fdiv, o_ddiv, o_f2d, o_c, o_iload, o_lload, o_fload, o_dload, o_aload, o_istore, o_lstore, o_fstore, o_dstore, o_astore, o_iinc, o_dup, o_pop, o_dupx1, o_dup2, o_dup2l, o_ifeq, o_iceq, o_ifne, o_icne, o_iflt, o_iclt, o_ifge, o_icge, o_ifgt, o_icgt, o_ifle, o_icle, o_at, o_iret, o_lret, o_fret, o_dret, o_zret, o_cret, o_vret, o_aret, o_get, o_put, o_new, o_ald, o_iast, o_last, o_dast, o_aast, o_alen, o_newa, o_cast, o_acmpeq, o_acmpne, o_calls, o_callv, o_calln, o_calli, o_obj, o_throw, o_callh, o_sw, o_acopy, lg, lset1, lset2, lk, aPop, Value.category, List.map_cons, List.map_nil, List.sum_cons, List.sum_nil, Option.toList, List.cons_append, List.nil_append, true_and, and_true, aTFit, if_true, if_false, kV, eq_self, and_self]
    refine bX2_raisedShare_25 (by omega) _ _ _ _ _ ?_
    try simp only [o_iadd, o_isub, o_imul, o_iand, o_ladd, o_lsub, o_lmul, o_land, o_lxor, o_ineg, o_lneg, o_i2l, o_l2i, o_i2f, o_l2d, o_lcmp, o_dcmp, o_fcmp, o_ldiv, o_lrem, o_fdiv, o_ddiv, o_f2d, o_c, o_iload, o_lload, o_fload, o_dload, o_aload, o_istore, o_lstore, o_fstore, o_dstore, o_astore, o_iinc, o_dup, o_pop, o_dupx1, o_dup2, o_dup2l, o_ifeq, o_iceq, o_ifne, o_icne, o_iflt, o_iclt, o_ifge, o_icge, o_ifgt, o_icgt, o_ifle, o_icle, o_at, o_iret, o_lret, o_fret, o_dret, o_zret, o_cret, o_vret, o_aret, o_get, o_put, o_new, o_ald, o_iast, o_last, o_dast, o_aast, o_alen, o_newa, o_cast, o_acmpeq, o_acmpne, o_calls, o_callv, o_calln, o_calli, o_obj, o_throw, o_callh, o_sw, o_acopy, lg, lset1, lset2, lk, aPop, Value.category, List.map_cons, List.map_nil, List.sum_cons, List.sum_nil, Option.toList, List.cons_append, List.nil_append, true_and, and_true, aTFit, if_true, if_false, kV, eq_self, and_self]
    refine aObj.mk hx (aVal.mk rfl ?_)
    try simp only [o_iadd, o_isub, o_imul, o_iand, o_ladd, o_lsub, o_lmul, o_land, o_lxor, o_ineg, o_lneg, o_i2l, o_l2i, o_i2f, o_l2d, o_lcmp, o_dcmp, o_fcmp, o_ldiv, o_lrem, o_fdiv, o_ddiv, o_f2d, o_c, o_iload, o_lload, o_fload, o_dload, o_aload, o_istore, o_lstore, o_fstore, o_dstore, o_astore, o_iinc, o_dup, o_pop, o_dupx1, o_dup2, o_dup2l, o_ifeq, o_iceq, o_ifne, o_icne, o_iflt, o_iclt, o_ifge, o_icge, o_ifgt, o_icgt, o_ifle, o_icle, o_at, o_iret, o_lret, o_fret, o_dret, o_zret, o_cret, o_vret, o_aret, o_get, o_put, o_new, o_ald, o_iast, o_last, o_dast, o_aast, o_alen, o_newa, o_cast, o_acmpeq, o_acmpne, o_calls, o_callv, o_calln, o_calli, o_obj, o_throw, o_callh, o_sw, o_acopy, lg, lset1, lset2, lk, aPop, Value.category, List.map_cons, List.map_nil, List.sum_cons, List.sum_nil, Option.toList, List.cons_append, List.nil_append, true_and, and_true, aTFit, if_true, if_false, kV, eq_self, and_self]
    refine aArr.mk hq (by decide) ⟨by decide, nI_pos (by omega), ?_⟩
    rw [nI_clamp (by omega)]
    refine aVal.mk hv ?_
    try simp only [o_iadd, o_isub, o_imul, o_iand, o_ladd, o_lsub, o_lmul, o_land, o_lxor, o_ineg, o_lneg, o_i2l, o_l2i, o_i2f, o_l2d, o_lcmp, o_dcmp, o_fcmp, o_ldiv, o_lrem, o_fdiv, o_ddiv, o_f2d, o_c, o_iload, o_lload, o_fload, o_dload, o_aload, o_istore, o_lstore, o_fstore, o_dstore, o_astore, o_iinc, o_dup, o_pop, o_dupx1, o_dup2, o_dup2l, o_ifeq, o_iceq, o_ifne, o_icne, o_iflt, o_iclt, o_ifge, o_icge, o_ifgt, o_icgt, o_ifle, o_icle, o_at, o_iret, o_lret, o_fret, o_dret, o_zret, o_cret, o_vret, o_aret, o_get, o_put, o_new, o_ald, o_iast, o_last, o_dast, o_aast, o_alen, o_newa, o_cast, o_acmpeq, o_acmpne, o_calls, o_callv, o_calln, o_calli, o_obj, o_throw, o_callh, o_sw, o_acopy, lg, lset1, lset2, lk, aPop, Value.category, List.map_cons, List.map_nil, List.sum_cons, List.sum_nil, Option.toList, List.cons_append, List.nil_append, true_and, and_true, aTFit, if_true, if_false, kV, eq_self, and_self]
    refine aObj.mk hb9 (aVal.mk rfl ⟨Nat.le_of_ble_eq_true rfl, aKind.mk ha rfl, aCt.mk (c_alsize hst (by omega) h _ _ m _ ha) (Nat.zero_le _) (Nat.zero_le _) ?_⟩)
    rintro r h4 ⟨rfl, hh⟩
    obtain rfl := hh.symm
    try simp only [o_iadd, o_isub, o_imul, o_iand, o_ladd, o_lsub, o_lmul, o_land, o_lxor, o_ineg, o_lneg, o_i2l, o_l2i, o_i2f, o_l2d, o_lcmp, o_dcmp, o_fcmp, o_ldiv, o_lrem, o_fdiv, o_ddiv, o_f2d, o_c, o_iload, o_lload, o_fload, o_dload, o_aload, o_istore, o_lstore, o_fstore, o_dstore, o_astore, o_iinc, o_dup, o_pop, o_dupx1, o_dup2, o_dup2l, o_ifeq, o_iceq, o_ifne, o_icne, o_iflt, o_iclt, o_ifge, o_icge, o_ifgt, o_icgt, o_ifle, o_icle, o_at, o_iret, o_lret, o_fret, o_dret, o_zret, o_cret, o_vret, o_aret, o_get, o_put, o_new, o_ald, o_iast, o_last, o_dast, o_aast, o_alen, o_newa, o_cast, o_acmpeq, o_acmpne, o_calls, o_callv, o_calln, o_calli, o_obj, o_throw, o_callh, o_sw, o_acopy, lg, lset1, lset2, lk, aPop, Value.category, List.map_cons, List.map_nil, List.sum_cons, List.sum_nil, Option.toList, List.cons_append, List.nil_append, true_and, and_true, aTFit, if_true, if_false, kV, eq_self, and_self]
    refine bX2_raisedShare_40 (by omega) _ _ _ _ _ ?_
    try simp only [o_iadd, o_isub, o_imul, o_iand, o_ladd, o_lsub, o_lmul, o_land, o_lxor, o_ineg, o_lneg, o_i2l, o_l2i, o_i2f, o_l2d, o_lcmp, o_dcmp, o_fcmp, o_ldiv, o_lrem, o_fdiv, o_ddiv, o_f2d, o_c, o_iload, o_lload, o_fload, o_dload, o_aload, o_istore, o_lstore, o_fstore, o_dstore, o_astore, o_iinc, o_dup, o_pop, o_dupx1, o_dup2, o_dup2l, o_ifeq, o_iceq, o_ifne, o_icne, o_iflt, o_iclt, o_ifge, o_icge, o_ifgt, o_icgt, o_ifle, o_icle, o_at, o_iret, o_lret, o_fret, o_dret, o_zret, o_cret, o_vret, o_aret, o_get, o_put, o_new, o_ald, o_iast, o_last, o_dast, o_aast, o_alen, o_newa, o_cast, o_acmpeq, o_acmpne, o_calls, o_callv, o_calln, o_calli, o_obj, o_throw, o_callh, o_sw, o_acopy, lg, lset1, lset2, lk, aPop, Value.category, List.map_cons, List.map_nil, List.sum_cons, List.sum_nil, Option.toList, List.cons_append, List.nil_append, true_and, and_true, aTFit, if_true, if_false, kV, eq_self, and_self]
    rw [nI_1, nI_add, ← Int32.ofInt_add, hlen]
    exact ih (k + 1) (by omega) _ _ _ _ _ ⟨rfl, rfl, hkc, hks, rfl⟩
/-! the constructor -/
abbrev sS0 : Nat → sB := fun _ => (2, 6, 0, 0, fun _ => (0, 0, 0, 0, 0))
abbrev bilV (a : Nat) : aC := (1, [.ref a, .int (nI 2), .int (nI 6), .int (nI 0), .long (LI (10 ^ (8 - 2)))])
/-- all that was there is as it was -/
def kAll (h h1 : aH) : Prop := ∀ z c, h z = some c → h1 z = some c
def NB (G : gG) (h hb : aH) (b a : Nat) : Prop := hb b = some (bilV a) ∧ hb a = some (alO 0 (gE G) 0) ∧ h b = none ∧ h a = none ∧ a ≠ b ∧ kAll h hb
theorem kAll.trans {h h1 h2 : aH} (a : kAll h h1) (b : kAll h1 h2) : kAll h h2 := fun z c e => b z c (a z c e)
theorem nb_mk {h : aH} {b a : Nat} {c : aC} (hb : h b = none) (ha : aUp h b c a = none) : NB G h (aUp (aUp (aUp h b c) a (alO 0 (gE G) 0)) b (bilV a)) b a := by
  have hab : a ≠ b := by
    rintro rfl
    rw [aUp_eq] at ha
    cases ha
  refine ⟨aUp_eq _ _ _, (aUp_ne hab).trans (aUp_eq _ _ _), hb, (aUp_ne hab).symm.trans ha, hab, fun z c2 e => ?_⟩
  have h1 : z ≠ b := fun w => by rw [w, hb] at e; cases e
  have h2 : z ≠ a := fun w => by
    rw [aUp_ne hab] at ha
    rw [w, ha] at e
    cases e
  exact (aUp_ne h1).trans ((aUp_ne h2).trans ((aUp_ne h1).trans e))
theorem f_init (hst : (gl G).stackTraces = false) (hd : 16 ≤ d) (h : aH) (x : Nat) (hx : h x = some (0, [.null])) (hE : h (gE G) = some (21, [])) : CT G iX2_init d 7 27 [.ref x] h (fun r h' => r = .inl none ∧ Cls G h' x sS0 ∧ ∀ z c, h z = some c → z ≠ x → h' z = some c) := by
  refine ct_of (L := [some (.ref x)]) (plainFor_of_name (by decide +kernel)) rfl hst rfl rfl (Nat.le_of_ble_eq_true rfl) ?_
  refine bX2_init_0 (by omega) _ _ _ _ _ ?_
  try simp only [o_iadd, o_isub, o_imul, o_iand, o_ladd, o_lsub, o_lmul, o_land, o_lxor, o_ineg, o_lneg, o_i2l, o_l2i, o_i2f, o_l2d, o_lcmp, o_dcmp, o_fcmp, o_ldiv, o_lrem, o_fdiv, o_ddiv, o_f2d, o_c, o_iload, o_lload, o_fload, o_dload, o_aload, o_istore, o_lstore, o_fstore, o_dstore, o_astore, o_iinc, o_dup, o_pop, o_dupx1, o_dup2, o_dup2l, o_ifeq, o_iceq, o_ifne, o_icne, o_iflt, o_iclt, o_ifge, o_icge, o_ifgt, o_icgt, o_ifle, o_icle, o_at, o_iret, o_lret, o_fret, o_dret, o_zret, o_cret, o_vret, o_aret, o_get, o_put, o_new, o_ald, o_iast, o_last, o_dast, o_aast, o_alen, o_newa, o_cast, o_acmpeq, o_acmpne, o_calls, o_callv, o_calln, o_calli, o_obj, o_throw, o_callh, o_sw, o_acopy, lg, lset1, lset2, lk, aPop, Value.category, List.map_cons, List.map_nil, List.sum_cons, List.sum_nil, Option.toList, List.cons_append, List.nil_append, true_and, and_true, aTFit, if_true, if_false, kV, eq_self, and_self]
  refine ⟨by decide, ?_⟩
  refine ⟨by decide, by decide, by decide, by decide, fun q hq => ?_⟩
  rw [show (3 : Int32).toNatClampNeg = 3 from rfl]
  refine ⟨by decide, by decide, fun b0 hb0 => ?_⟩
  refine ⟨Nat.le_of_ble_eq_true rfl, aCn.mk (c_billInit hst (by omega) _ b0 _ _ _ _ _ (aUp_eq _ _ _)) (by decide) (by decide) (by rintro E h' ⟨a, -, z, -⟩; cases z) ?_⟩
  rintro v h1 ⟨a0, ha0, z, rfl⟩
  cases z
  have n0 := nb_mk (G := G) hb0 ha0
  revert n0
  generalize aUp (aUp (aUp (aUp h q (13, List.replicate 3 Value.null)) b0 (1, [.null, .int 0, .int 0, .int 0, .long 0])) a0 (alO 0 (gE G) 0)) b0 (bilV a0) = hB
  intro n0
  have hqx : q ≠ x := (fr_ne hx hq).symm
  have q0 : hB q = some (13, [.null, .null, .null]) := n0.2.2.2.2.2 q _ (aUp_eq _ _ _)
  try simp only [o_iadd, o_isub, o_imul, o_iand, o_ladd, o_lsub, o_lmul, o_land, o_lxor, o_ineg, o_lneg, o_i2l, o_l2i, o_i2f, o_l2d, o_lcmp, o_dcmp, o_fcmp, o_ldiv, o_lrem, o_fdiv, o_ddiv, o_f2d, o_c, o_iload, o_lload, o_fload, o_dload, o_aload, o_istore, o_lstore, o_fstore, o_dstore, o_astore, o_iinc, o_dup, o_pop, o_dupx1, o_dup2, o_dup2l, o_ifeq, o_iceq, o_ifne, o_icne, o_iflt, o_iclt, o_ifge, o_icge, o_ifgt, o_icgt, o_ifle, o_icle, o_at, o_iret, o_lret, o_fret, o_dret, o_zret, o_cret, o_vret, o_aret, o_get, o_put, o_new, o_ald, o_iast, o_last, o_dast, o_aast, o_alen, o_newa, o_cast, o_acmpeq, o_acmpne, o_calls, o_callv, o_calln, o_calli, o_obj, o_throw, o_callh, o_sw, o_acopy, lg, lset1, lset2, lk, aPop, Value.category, List.map_cons, List.map_nil, List.sum_cons, List.sum_nil, Option.toList, List.cons_append, List.nil_append, true_and, and_true, aTFit, if_true, if_false, kV, eq_self, and_self]
  refine bX2_init_18 (by omega) _ _ _ _ _ ?_
  try simp only [o_iadd, o_isub, o_imul, o_iand, o_ladd, o_lsub, o_lmul, o_land, o_lxor, o_ineg, o_lneg, o_i2l, o_l2i, o_i2f, o_l2d, o_lcmp, o_dcmp, o_fcmp, o_ldiv, o_lrem, o_fdiv, o_ddiv, o_f2d, o_c, o_iload, o_lload, o_fload, o_dload, o_aload, o_istore, o_lstore, o_fstore, o_dstore, o_astore, o_iinc, o_dup, o_pop, o_dupx1, o_dup2, o_dup2l, o_ifeq, o_iceq, o_ifne, o_icne, o_iflt, o_iclt, o_ifge, o_icge, o_ifgt, o_icgt, o_ifle, o_icle, o_at, o_iret, o_lret, o_fret, o_dret, o_zret, o_cret, o_vret, o_aret, o_get, o_put, o_new, o_ald, o_iast, o_last, o_dast, o_aast, o_alen, o_newa, o_cast, o_acmpeq, o_acmpne, o_calls, o_callv, o_calln, o_calli, o_obj, o_throw, o_callh, o_sw, o_acopy, lg, lset1, lset2, lk, aPop, Value.category, List.map_cons, List.map_nil, List.sum_cons, List.sum_nil, Option.toList, List.cons_append, List.nil_append, true_and, and_true, aTFit, if_true, if_false, kV, eq_self, and_self]
  refine aArr.mk q0 (by decide) ⟨aKind.mk n0.1 rfl, ⟨by decide, by decide⟩, ?_⟩
  rw [show (0 : Int32).toNatClampNeg = 0 from rfl]
  refine ⟨by decide, by decide, fun b1 hb1 => ?_⟩
  refine ⟨Nat.le_of_ble_eq_true rfl, aCn.mk (c_billInit hst (by omega) _ b1 _ _ _ _ _ (aUp_eq _ _ _)) (by decide) (by decide) (by rintro E h' ⟨a, -, z, -⟩; cases z) ?_⟩
  rintro v h1 ⟨a1, ha1, z, rfl⟩
  cases z
  have n1 := nb_mk (G := G) hb1 ha1
  revert n1
  generalize aUp (aUp (aUp (aUp hB q (13, _)) b1 (1, [.null, .int 0, .int 0, .int 0, .long 0])) a1 (alO 0 (gE G) 0)) b1 (bilV a1) = hC
  intro n1
  have q1 : hC q = some (13, [.ref b0, .null, .null]) := n1.2.2.2.2.2 q _ (aUp_eq _ _ _)
  try simp only [o_iadd, o_isub, o_imul, o_iand, o_ladd, o_lsub, o_lmul, o_land, o_lxor, o_ineg, o_lneg, o_i2l, o_l2i, o_i2f, o_l2d, o_lcmp, o_dcmp, o_fcmp, o_ldiv, o_lrem, o_fdiv, o_ddiv, o_f2d, o_c, o_iload, o_lload, o_fload, o_dload, o_aload, o_istore, o_lstore, o_fstore, o_dstore, o_astore, o_iinc, o_dup, o_pop, o_dupx1, o_dup2, o_dup2l, o_ifeq, o_iceq, o_ifne, o_icne, o_iflt, o_iclt, o_ifge, o_icge, o_ifgt, o_icgt, o_ifle, o_icle, o_at, o_iret, o_lret, o_fret, o_dret, o_zret, o_cret, o_vret, o_aret, o_get, o_put, o_new, o_ald, o_iast, o_last, o_dast, o_aast, o_alen, o_newa, o_cast, o_acmpeq, o_acmpne, o_calls, o_callv, o_calln, o_calli, o_obj, o_throw, o_callh, o_sw, o_acopy, lg, lset1, lset2, lk, aPop, Value.category, List.map_cons, List.map_nil, List.sum_cons, List.sum_nil, Option.toList, List.cons_append, List.nil_append, true_and, and_true, aTFit, if_true, if_false, kV, eq_self, and_self]
  refine bX2_init_28 (by omega) _ _ _ _ _ ?_
  try simp only [o_iadd, o_isub, o_imul, o_iand, o_ladd, o_lsub, o_lmul, o_land, o_lxor, o_ineg, o_lneg, o_i2l, o_l2i, o_i2f, o_l2d, o_lcmp, o_dcmp, o_fcmp, o_ldiv, o_lrem, o_fdiv, o_ddiv, o_f2d, o_c, o_iload, o_lload, o_fload, o_dload, o_aload, o_istore, o_lstore, o_fstore, o_dstore, o_astore, o_iinc, o_dup, o_pop, o_dupx1, o_dup2, o_dup2l, o_ifeq, o_iceq, o_ifne, o_icne, o_iflt, o_iclt, o_ifge, o_icge, o_ifgt, o_icgt, o_ifle, o_icle, o_at, o_iret, o_lret, o_fret, o_dret, o_zret, o_cret, o_vret, o_aret, o_get, o_put, o_new, o_ald, o_iast, o_last, o_dast, o_aast, o_alen, o_newa, o_cast, o_acmpeq, o_acmpne, o_calls, o_callv, o_calln, o_calli, o_obj, o_throw, o_callh, o_sw, o_acopy, lg, lset1, lset2, lk, aPop, Value.category, List.map_cons, List.map_nil, List.sum_cons, List.sum_nil, Option.toList, List.cons_append, List.nil_append, true_and, and_true, aTFit, if_true, if_false, kV, eq_self, and_self]
  refine aArr.mk q1 (by decide) ⟨aKind.mk n1.1 rfl, ⟨by decide, by show 1 < 3; decide⟩, ?_⟩
  rw [show (1 : Int32).toNatClampNeg = 1 from rfl]
  refine ⟨by decide, by decide, fun b2 hb2 => ?_⟩
  refine ⟨Nat.le_of_ble_eq_true rfl, aCn.mk (c_billInit hst (by omega) _ b2 _ _ _ _ _ (aUp_eq _ _ _)) (by decide) (by decide) (by rintro E h' ⟨a, -, z, -⟩; cases z) ?_⟩
  rintro v h1 ⟨a2, ha2, z, rfl⟩
  cases z
  have n2 := nb_mk (G := G) hb2 ha2
  revert n2
  generalize aUp (aUp (aUp (aUp hC q (13, _)) b2 (1, [.null, .int 0, .int 0, .int 0, .long 0])) a2 (alO 0 (gE G) 0)) b2 (bilV a2) = hD
  intro n2
  have q2 : hD q = some (13, [.ref b0, .ref b1, .null]) := n2.2.2.2.2.2 q _ (aUp_eq _ _ _)
  obtain ⟨e0b, e0a, z0b, z0a, -, k0⟩ := n0
  obtain ⟨e1b, e1a, z1b, z1a, -, k1⟩ := n1
  obtain ⟨e2b, e2a, z2b, z2a, -, k2⟩ := n2
  have t0 : ∀ z c, h z = some c → hB z = some c := fun z c e => k0 z c ((aUp_ne (fun w => by rw [w, hq] at e; cases e)).trans e)
  have t1 : ∀ z c, z ≠ q → hB z = some c → hC z = some c := fun z c w e => k1 z c ((aUp_ne w).trans e)
  have t2 : ∀ z c, z ≠ q → hC z = some c → hD z = some c := fun z c w e => k2 z c ((aUp_ne w).trans e)
  have bq0 : b0 ≠ q := (fr_ne (aUp_eq _ _ _) z0b).symm
  have aq0 : a0 ≠ q := (fr_ne (aUp_eq _ _ _) z0a).symm
  have bq1 : b1 ≠ q := (fr_ne (aUp_eq _ _ _) z1b).symm
  have aq1 : a1 ≠ q := (fr_ne (aUp_eq _ _ _) z1a).symm
  have bq2 : b2 ≠ q := (fr_ne (aUp_eq _ _ _) z2b).symm
  have aq2 : a2 ≠ q := (fr_ne (aUp_eq _ _ _) z2a).symm
  have hx0 := t0 x _ hx
  have hx1 := t1 x _ hqx.symm hx0
  have hx2 := t2 x _ hqx.symm hx1
  have bx0 : b0 ≠ x := kd_ne e0b hx0 (by decide)
  have ax0 : a0 ≠ x := kd_ne e0a hx0 (by decide)
  have bx1 : b1 ≠ x := kd_ne e1b hx1 (by decide)
  have ax1 : a1 ≠ x := kd_ne e1a hx1 (by decide)
  have bx2 : b2 ≠ x := kd_ne e2b hx2 (by decide)
  have ax2 : a2 ≠ x := kd_ne e2a hx2 (by decide)
  have b10 : b1 ≠ b0 := fun w => fr_ne ((aUp_ne bq0).trans e0b) (w ▸ z1b) rfl
  have a10 : a1 ≠ a0 := fun w => fr_ne ((aUp_ne aq0).trans e0a) (w ▸ z1a) rfl
  have b20 : b2 ≠ b0 := fun w => fr_ne ((aUp_ne bq0).trans (t1 _ _ bq0 e0b)) (w ▸ z2b) rfl
  have a20 : a2 ≠ a0 := fun w => fr_ne ((aUp_ne aq0).trans (t1 _ _ aq0 e0a)) (w ▸ z2a) rfl
  have b21 : b2 ≠ b1 := fun w => fr_ne ((aUp_ne bq1).trans e1b) (w ▸ z2b) rfl
  have a21 : a2 ≠ a1 := fun w => fr_ne ((aUp_ne aq1).trans e1a) (w ▸ z2a) rfl
  try simp only [o_iadd, o_isub, o_imul, o_iand, o_ladd, o_lsub, o_lmul, o_land, o_lxor, o_ineg, o_lneg, o_i2l, o_l2i, o_i2f, o_l2d, o_lcmp, o_dcmp, o_fcmp, o_ldiv, o_lrem, o_fdiv, o_ddiv, o_f2d, o_c, o_iload, o_lload, o_fload, o_dload, o_aload, o_istore, o_lstore, o_fstore, o_dstore, o_astore, o_iinc, o_dup, o_pop, o_dupx1, o_dup2, o_dup2l, o_ifeq, o_iceq, o_ifne, o_icne, o_iflt, o_iclt, o_ifge, o_icge, o_ifgt, o_icgt, o_ifle, o_icle, o_at, o_iret, o_lret, o_fret, o_dret, o_zret, o_cret, o_vret, o_aret, o_get, o_put, o_new, o_ald, o_iast, o_last, o_dast, o_aast, o_alen, o_newa, o_cast, o_acmpeq, o_acmpne, o_calls, o_callv, o_calln, o_calli, o_obj, o_throw, o_callh, o_sw, o_acopy, lg, lset1, lset2, lk, aPop, Value.category, List.map_cons, List.map_nil, List.sum_cons, List.sum_nil, Option.toList, List.cons_append, List.nil_append, true_and, and_true, aTFit, if_true, if_false, kV, eq_self, and_self]
  refine bX2_init_38 (by omega) _ _ _ _ _ ?_
  try simp only [o_iadd, o_isub, o_imul, o_iand, o_ladd, o_lsub, o_lmul, o_land, o_lxor, o_ineg, o_lneg, o_i2l, o_l2i, o_i2f, o_l2d, o_lcmp, o_dcmp, o_fcmp, o_ldiv, o_lrem, o_fdiv, o_ddiv, o_f2d, o_c, o_iload, o_lload, o_fload, o_dload, o_aload, o_istore, o_lstore, o_fstore, o_dstore, o_astore, o_iinc, o_dup, o_pop, o_dupx1, o_dup2, o_dup2l, o_ifeq, o_iceq, o_ifne, o_icne, o_iflt, o_iclt, o_ifge, o_icge, o_ifgt, o_icgt, o_ifle, o_icle, o_at, o_iret, o_lret, o_fret, o_dret, o_zret, o_cret, o_vret, o_aret, o_get, o_put, o_new, o_ald, o_iast, o_last, o_dast, o_aast, o_alen, o_newa, o_cast, o_acmpeq, o_acmpne, o_calls, o_callv, o_calln, o_calli, o_obj, o_throw, o_callh, o_sw, o_acopy, lg, lset1, lset2, lk, aPop, Value.category, List.map_cons, List.map_nil, List.sum_cons, List.sum_nil, Option.toList, List.cons_append, List.nil_append, true_and, and_true, aTFit, if_true, if_false, kV, eq_self, and_self]
  refine aArr.mk q2 (by decide) ⟨aKind.mk e2b rfl, ⟨by decide, by show 2 < 3; decide⟩, ?_⟩
  rw [show (2 : Int32).toNatClampNeg = 2 from rfl]
  refine aObj.mk ((aUp_ne hqx.symm).trans hx2) ?_
  have fin : ∀ z c, z ≠ q → z ≠ x → hD z = some c → aUp (aUp hD q (13, ([.ref b0, .ref b1, .null] : List Value).set 2 (.ref b2))) x (0, ([.null] : List Value).set 0 (.ref q)) z = some c := fun z c w1 w2 e => (aUp_ne w2).trans ((aUp_ne w1).trans e)
  have hEq : gE G ≠ q := fun w => by rw [w, hq] at hE; cases hE
  have hEx : gE G ≠ x := kd_ne hE hx (by decide)
  have hE9 := fin _ _ hEq hEx (t2 _ _ hEq (t1 _ _ hEq (t0 _ _ hE)))
  have one : ∀ b a, aUp (aUp hD q (13, ([.ref b0, .ref b1, .null] : List Value).set 2 (.ref b2))) x (0, ([.null] : List Value).set 0 (.ref q)) b = some (bilV a) → aUp (aUp hD q (13, ([.ref b0, .ref b1, .null] : List Value).set 2 (.ref b2))) x (0, ([.null] : List Value).set 0 (.ref q)) a = some (alO 0 (gE G) 0) → BvS G (aUp (aUp hD q (13, ([.ref b0, .ref b1, .null] : List Value).set 2 (.ref b2))) x (0, ([.null] : List Value).set 0 (.ref q))) b a (gE G) [] (2, 6, 0, 0, fun _ => (0, 0, 0, 0, 0)) := fun b a w1 w2 => ⟨⟨w1, ⟨by decide, ⟨0, w2⟩, Or.inl ⟨rfl, rfl, hE9⟩⟩, fun i hi => absurd hi (Nat.not_lt_zero i), List.nodup_nil, by decide, by decide, by decide, fun i hi => absurd hi (Nat.not_lt_zero i)⟩, rfl⟩
  have f0 := one _ _ (fin _ _ bq0 bx0 (t2 _ _ bq0 (t1 _ _ bq0 e0b))) (fin _ _ aq0 ax0 (t2 _ _ aq0 (t1 _ _ aq0 e0a)))
  have f1 := one _ _ (fin _ _ bq1 bx1 (t2 _ _ bq1 e1b)) (fin _ _ aq1 ax1 (t2 _ _ aq1 e1a))
  have f2 := one _ _ (fin _ _ bq2 bx2 e2b) (fin _ _ aq2 ax2 e2a)
  have dj : ∀ b a b' a', b' ≠ b → a' ≠ a → Dj G b a (gE G) [] b' a' (gE G) [] := fun b a b' a' w1 w2 => ⟨w1, w2, Or.inr rfl, fun y hy => absurd hy List.not_mem_nil⟩
  refine ⟨⟨q, (fun i => match i with | 0 => b0 | 1 => b1 | _ => b2), (fun i => match i with | 0 => a0 | 1 => a1 | _ => a2), fun _ => gE G, fun _ => [], aUp_eq _ _ _, (aUp_ne hqx).trans (aUp_eq _ _ _), fun i hi => ?_, fun i hi j hj hne => ?_⟩, fun z c e w => ?_⟩
  · rcases i with _ | _ | _ | i
    · exact f0
    · exact f1
    · exact f2
    · omega
  · rcases i with _ | _ | _ | i <;> rcases j with _ | _ | _ | j <;> first | omega | exact absurd rfl hne | skip
    · exact dj _ _ _ _ b10 a10
    · exact dj _ _ _ _ b20 a20
    · exact dj _ _ _ _ b10.symm a10.symm
    · exact dj _ _ _ _ b21 a21
    · exact dj _ _ _ _ b20.symm a20.symm
    · exact dj _ _ _ _ b21.symm a21.symm
  · have w1 : z ≠ q := fun y => by rw [y, hq] at e; cases e
    exact fin _ _ w1 w (t2 _ _ w1 (t1 _ _ w1 (t0 _ _ e)))
end Face17
