/-! a bill put in order -/
section SortC
variable {G : gG} {d : Nat}
theorem mv_inj {i t p q : Nat} (ht : t ≤ i) (h : mvP i t p = mvP i t q) : p = q := by
  unfold mvP at h
  (repeat' split at h) <;> omega
theorem nd_of {l : List Nat} (h : ∀ p (hp : p < l.length) q (hq : q < l.length), p < q → l[p] ≠ l[q]) : l.Nodup := List.pairwise_iff_getElem.mpr fun p q hp hq hpq => h p hp q hq hpq
theorem ex_get {l : List Nat} {p : Nat} (hp : p < l.length) : l[p]? = some l[p] := List.getElem?_eq_getElem hp
theorem mv_lt {i t p n : Nat} (hi : i < n) (hp : p < n) : mvP i t p < n := by
  unfold mvP
  split
  · exact hp
  · split
    · exact hi
    · split <;> omega
/-- a line taken out at i and put in at t -/
theorem Bv.move {h : aH} {b a e e2 : Nat} {ys : List Nat} {pl wy cl : Nat} {ls : Nat → sL} {m m2 : Int32} {i t : Nat} (hB : Bv G h b a e ys pl wy cl ls) (hi : i < ys.length) (ht : t ≤ i) (hne : e ≠ gE G) (hne2 : e2 ≠ gE G) (he : e2 = e ∨ alUp G h a m e (ys.eraseIdx i) e2 = none) : Bv G (alUp G (alUp G h a m e (ys.eraseIdx i)) a m2 e2 ((ys.eraseIdx i).insertIdx t ys[i])) b a e2 ((ys.eraseIdx i).insertIdx t ys[i]) pl wy cl (fun p => ls (mvP i t p)) := by
  obtain ⟨hb, hal, hl, hnd, hpl, hwy, hcl, hok⟩ := id hB
  have hn := hal.1
  have hlen : (ys.eraseIdx i).length = ys.length - 1 := List.length_eraseIdx_of_lt hi
  have hlen2 : ((ys.eraseIdx i).insertIdx t ys[i]).length = ys.length := by
    rw [List.length_insertIdx_of_le_length (by omega), hlen]; omega
  have hg : ∀ p (hp : p < ((ys.eraseIdx i).insertIdx t ys[i]).length), ((ys.eraseIdx i).insertIdx t ys[i])[p] = ys[mvP i t p]'(mv_lt hi (by omega)) := by
    intro p hp
    have h1 := mv_get (xs := ys) (i := i) (t := t) (p := p) hi ht
    rw [ex_get hp, ex_get (mv_lt hi (by omega))] at h1
    exact Option.some.inj h1
  have h1 : Bv G (alUp G h a m e (ys.eraseIdx i)) b a e (ys.eraseIdx i) pl wy cl (fun p => if p < i then ls p else ls (p + 1)) := by
    refine hB.list (Or.inl rfl) (Or.inl hne) (by omega) (hnd.sublist (List.eraseIdx_sublist ys i)) (fun p hp => ?_) (fun p hp => ?_)
    · by_cases c : p < i
      · rw [List.getElem_eraseIdx_of_lt _ c, hl p (by omega)]
        simp only [if_pos c]
      · rw [List.getElem_eraseIdx_of_ge _ (by omega), hl (p + 1) (by omega)]
        simp only [if_neg c]
    · split
      · exact hok _ (by omega)
      · exact hok _ (by omega)
  obtain ⟨⟨vb, kb⟩, ⟨va, ka⟩, ⟨k9, ve, ke, hk9⟩, kx⟩ := hB.kinds
  refine h1.list (he.imp id fun z => ⟨z, hne2⟩) (Or.inl hne2) (by omega) ?_ (fun p hp => ?_) (fun p hp => hok _ (mv_lt hi (by omega)))
  · refine nd_of fun p hp q hq hpq => ?_
    rw [hg p hp, hg q hq]
    intro z
    have := mv_inj ht ((List.getElem_inj hnd).mp z)
    omega
  · rw [hg p hp]
    have hx := hl (mvP i t p) (mv_lt hi (by omega))
    refine (alUp_ne (kd_ne hx ka (by decide)) (Or.inl (kd_ne hx ke ?_))).trans hx
    rcases hk9 with rfl | rfl <;> decide
theorem c_putInOrder (hst : (gl G).stackTraces = false) (hd : 17 ≤ d) (h : aH) {b a e : Nat} {xs : List Nat} {pl wy cl : Nat} {ls : Nat → sL} (hB : Bv G h b a e xs pl wy cl ls) : CT G iX0_putInOrder d 9 90 [.ref b] h (fun r h' => ∃ e' ys lq, r = .inl none ∧ Bv G h' b a e' ys pl wy cl lq ∧ ys.length = xs.length ∧ (∀ k, k < xs.length → lq (orderZ (eX ls) xs.length k) = ls k) ∧ (e' = e ∨ h e' = none) ∧ (∀ y ∈ ys, y ∈ xs) ∧ Fr G h h' b a e xs) := by
  obtain ⟨-, hal0, hl0, -, hpl, hwy, hcl, hok⟩ := id hB
  have hn := hal0.1
  refine ct_of (L := [some (.ref b), none, none]) (plainFor_of_name (by decide +kernel)) rfl hst rfl rfl (Nat.le_of_ble_eq_true rfl) ?_
  refine bX0_putInOrder_0 (by omega) _ _ _ _ _ ?_
  try simp only [o_iadd, o_isub, o_imul, o_iand, o_ladd, o_lsub, o_lmul, o_land, o_lxor, o_ineg, o_lneg, o_i2l, o_l2i, o_i2f, o_l2d, o_lcmp, o_dcmp, o_fcmp, o_ldiv, o_lrem, o_fdiv, o_ddiv, o_f2d, o_c, o_iload, o_lload, o_fload, o_dload, o_aload, o_istore, o_lstore, o_fstore, o_dstore, o_astore, o_iinc, o_dup, o_pop, o_dupx1, o_dup2, o_dup2l, o_ifeq, o_iceq, o_ifne, o_icne, o_iflt, o_iclt, o_ifge, o_icge, o_ifgt, o_icgt, o_ifle, o_icle, o_at, o_iret, o_lret, o_fret, o_dret, o_zret, o_cret, o_vret, o_aret, o_get, o_put, o_new, o_ald, o_iast, o_last, o_dast, o_aast, o_alen, o_newa, o_cast, o_acmpeq, o_acmpne, o_calls, o_callv, o_calln, o_calli, o_obj, o_throw, o_callh, o_sw, o_acopy, lg, lset1, lset2, lk, aPop, Value.category, List.map_cons, List.map_nil, List.sum_cons, List.sum_nil, Option.toList, List.cons_append, List.nil_append, true_and, and_true, aTFit, if_true, if_false, kV, eq_self, and_self]
  suffices H : ∀ (j i : Nat), 1 ≤ i → (i + j = xs.length ∨ (j = 0 ∧ xs.length = 0)) → i ≤ 10 → aSo G iX0_putInOrder d _ _ _ (fun kc ks L st h1 => (∃ l2, L = [some (.ref b), some (.int (nI i)), l2]) ∧ st = [] ∧ j ≤ kc ∧ 10 * j ≤ ks ∧ ∃ e' ys lq, Bv G h1 b a e' ys pl wy cl lq ∧ ys.length = xs.length ∧ (∀ k, k < xs.length → lq (posZ (eX ls) i k) = ls k) ∧ (e' = e ∨ h e' = none) ∧ (∀ y ∈ ys, y ∈ xs) ∧ Fr G h h1 b a e xs) 2 by
    refine H (xs.length - 1) 1 (Nat.le_refl _) (by omega) (by decide) _ _ _ _ _ ⟨⟨_, rfl⟩, rfl, by omega, by omega, e, xs, ls, hB, rfl, fun k hk => ?_, Or.inl rfl, fun y hy => hy, fun q z => z, fun q _ _ _ _ _ => rfl⟩
    unfold posZ
    by_cases c : k < 1
    · obtain rfl : k = 0 := by omega
      rw [if_pos c, order_self]
      rfl
    · rw [if_neg c]
  intro j
  induction j with
  | zero =>
    rintro i hi1 hi hi9 kc ks L st h1 ⟨⟨l2, rfl⟩, rfl, -, -, e', ys, lq, hB1, hlen, hq, he, hys, hF⟩
    obtain ⟨hb, hal, hl, -⟩ := id hB1
    obtain ⟨-, ⟨m, ha⟩, -⟩ := id hal
    refine bX0_putInOrder_2 (by omega) _ _ _ _ _ ?_
    try simp only [o_iadd, o_isub, o_imul, o_iand, o_ladd, o_lsub, o_lmul, o_land, o_lxor, o_ineg, o_lneg, o_i2l, o_l2i, o_i2f, o_l2d, o_lcmp, o_dcmp, o_fcmp, o_ldiv, o_lrem, o_fdiv, o_ddiv, o_f2d, o_c, o_iload, o_lload, o_fload, o_dload, o_aload, o_istore, o_lstore, o_fstore, o_dstore, o_astore, o_iinc, o_dup, o_pop, o_dupx1, o_dup2, o_dup2l, o_ifeq, o_iceq, o_ifne, o_icne, o_iflt, o_iclt, o_ifge, o_icge, o_ifgt, o_icgt, o_ifle, o_icle, o_at, o_iret, o_lret, o_fret, o_dret, o_zret, o_cret, o_vret, o_aret, o_get, o_put, o_new, o_ald, o_iast, o_last, o_dast, o_aast, o_alen, o_newa, o_cast, o_acmpeq, o_acmpne, o_calls, o_callv, o_calln, o_calli, o_obj, o_throw, o_callh, o_sw, o_acopy, lg, lset1, lset2, lk, aPop, Value.category, List.map_cons, List.map_nil, List.sum_cons, List.sum_nil, Option.toList, List.cons_append, List.nil_append, true_and, and_true, aTFit, if_true, if_false, kV, eq_self, and_self]
    refine aObj.mk hb (aVal.mk rfl ⟨Nat.le_of_ble_eq_true rfl, aKind.mk ha rfl, aCt.mk (c_alsize hst (by omega) h1 a e' m _ ha) (Nat.zero_le _) (Nat.zero_le _) ?_⟩)
    rintro r h4 ⟨rfl, hh⟩
    obtain rfl := hh.symm
    try simp only [o_iadd, o_isub, o_imul, o_iand, o_ladd, o_lsub, o_lmul, o_land, o_lxor, o_ineg, o_lneg, o_i2l, o_l2i, o_i2f, o_l2d, o_lcmp, o_dcmp, o_fcmp, o_ldiv, o_lrem, o_fdiv, o_ddiv, o_f2d, o_c, o_iload, o_lload, o_fload, o_dload, o_aload, o_istore, o_lstore, o_fstore, o_dstore, o_astore, o_iinc, o_dup, o_pop, o_dupx1, o_dup2, o_dup2l, o_ifeq, o_iceq, o_ifne, o_icne, o_iflt, o_iclt, o_ifge, o_icge, o_ifgt, o_icgt, o_ifle, o_icle, o_at, o_iret, o_lret, o_fret, o_dret, o_zret, o_cret, o_vret, o_aret, o_get, o_put, o_new, o_ald, o_iast, o_last, o_dast, o_aast, o_alen, o_newa, o_cast, o_acmpeq, o_acmpne, o_calls, o_callv, o_calln, o_calli, o_obj, o_throw, o_callh, o_sw, o_acopy, lg, lset1, lset2, lk, aPop, Value.category, List.map_cons, List.map_nil, List.sum_cons, List.sum_nil, Option.toList, List.cons_append, List.nil_append, true_and, and_true, aTFit, if_true, if_false, kV, eq_self, and_self]
    refine bX0_putInOrder_10 (by omega) _ _ _ _ _ ?_
    try simp only [o_iadd, o_isub, o_imul, o_iand, o_ladd, o_lsub, o_lmul, o_land, o_lxor, o_ineg, o_lneg, o_i2l, o_l2i, o_i2f, o_l2d, o_lcmp, o_dcmp, o_fcmp, o_ldiv, o_lrem, o_fdiv, o_ddiv, o_f2d, o_c, o_iload, o_lload, o_fload, o_dload, o_aload, o_istore, o_lstore, o_fstore, o_dstore, o_astore, o_iinc, o_dup, o_pop, o_dupx1, o_dup2, o_dup2l, o_ifeq, o_iceq, o_ifne, o_icne, o_iflt, o_iclt, o_ifge, o_icge, o_ifgt, o_icgt, o_ifle, o_icle, o_at, o_iret, o_lret, o_fret, o_dret, o_zret, o_cret, o_vret, o_aret, o_get, o_put, o_new, o_ald, o_iast, o_last, o_dast, o_aast, o_alen, o_newa, o_cast, o_acmpeq, o_acmpne, o_calls, o_callv, o_calln, o_calli, o_obj, o_throw, o_callh, o_sw, o_acopy, lg, lset1, lset2, lk, aPop, Value.category, List.map_cons, List.map_nil, List.sum_cons, List.sum_nil, Option.toList, List.cons_append, List.nil_append, true_and, and_true, aTFit, if_true, if_false, kV, eq_self, and_self]
    refine ⟨fun _ => ?_, fun c => absurd (nI_le (by omega) (by omega)) c⟩
    refine bX0_putInOrder_84 (by omega) _ _ _ _ _ ?_
    try simp only [o_iadd, o_isub, o_imul, o_iand, o_ladd, o_lsub, o_lmul, o_land, o_lxor, o_ineg, o_lneg, o_i2l, o_l2i, o_i2f, o_l2d, o_lcmp, o_dcmp, o_fcmp, o_ldiv, o_lrem, o_fdiv, o_ddiv, o_f2d, o_c, o_iload, o_lload, o_fload, o_dload, o_aload, o_istore, o_lstore, o_fstore, o_dstore, o_astore, o_iinc, o_dup, o_pop, o_dupx1, o_dup2, o_dup2l, o_ifeq, o_iceq, o_ifne, o_icne, o_iflt, o_iclt, o_ifge, o_icge, o_ifgt, o_icgt, o_ifle, o_icle, o_at, o_iret, o_lret, o_fret, o_dret, o_zret, o_cret, o_vret, o_aret, o_get, o_put, o_new, o_ald, o_iast, o_last, o_dast, o_aast, o_alen, o_newa, o_cast, o_acmpeq, o_acmpne, o_calls, o_callv, o_calln, o_calli, o_obj, o_throw, o_callh, o_sw, o_acopy, lg, lset1, lset2, lk, aPop, Value.category, List.map_cons, List.map_nil, List.sum_cons, List.sum_nil, Option.toList, List.cons_append, List.nil_append, true_and, and_true, aTFit, if_true, if_false, kV, eq_self, and_self]
    refine ⟨e', ys, lq, hB1, hlen, fun k hk => ?_, he, hys, hF⟩
    have h5 := hq k hk
    unfold posZ at h5
    rw [if_pos (by omega)] at h5
    rw [show i = xs.length by omega] at h5
    exact h5
  | succ j ih =>
    rintro i hi1 hi hi9 kc ks L st h1 ⟨⟨l2, rfl⟩, rfl, hkc, hks, e', ys, lq, hB1, hlen, hq, he, hys, hF⟩
    obtain ⟨hb, hal, hl, -, -, -, -, hok1⟩ := id hB1
    obtain ⟨-, ⟨m, ha⟩, hr⟩ := id hal
    have hin : i < ys.length := by omega
    have hpl9 := plc_le (eX ls) i
    refine bX0_putInOrder_2 (by omega) _ _ _ _ _ ?_
    try simp only [o_iadd, o_isub, o_imul, o_iand, o_ladd, o_lsub, o_lmul, o_land, o_lxor, o_ineg, o_lneg, o_i2l, o_l2i, o_i2f, o_l2d, o_lcmp, o_dcmp, o_fcmp, o_ldiv, o_lrem, o_fdiv, o_ddiv, o_f2d, o_c, o_iload, o_lload, o_fload, o_dload, o_aload, o_istore, o_lstore, o_fstore, o_dstore, o_astore, o_iinc, o_dup, o_pop, o_dupx1, o_dup2, o_dup2l, o_ifeq, o_iceq, o_ifne, o_icne, o_iflt, o_iclt, o_ifge, o_icge, o_ifgt, o_icgt, o_ifle, o_icle, o_at, o_iret, o_lret, o_fret, o_dret, o_zret, o_cret, o_vret, o_aret, o_get, o_put, o_new, o_ald, o_iast, o_last, o_dast, o_aast, o_alen, o_newa, o_cast, o_acmpeq, o_acmpne, o_calls, o_callv, o_calln, o_calli, o_obj, o_throw, o_callh, o_sw, o_acopy, lg, lset1, lset2, lk, aPop, Value.category, List.map_cons, List.map_nil, List.sum_cons, List.sum_nil, Option.toList, List.cons_append, List.nil_append, true_and, and_true, aTFit, if_true, if_false, kV, eq_self, and_self]
    refine aObj.mk hb (aVal.mk rfl ⟨Nat.le_of_ble_eq_true rfl, aKind.mk ha rfl, aCt.mk (c_alsize hst (by omega) h1 a e' m _ ha) (Nat.zero_le _) (Nat.zero_le _) ?_⟩)
    rintro r h4 ⟨rfl, hh⟩
    obtain rfl := hh.symm
    try simp only [o_iadd, o_isub, o_imul, o_iand, o_ladd, o_lsub, o_lmul, o_land, o_lxor, o_ineg, o_lneg, o_i2l, o_l2i, o_i2f, o_l2d, o_lcmp, o_dcmp, o_fcmp, o_ldiv, o_lrem, o_fdiv, o_ddiv, o_f2d, o_c, o_iload, o_lload, o_fload, o_dload, o_aload, o_istore, o_lstore, o_fstore, o_dstore, o_astore, o_iinc, o_dup, o_pop, o_dupx1, o_dup2, o_dup2l, o_ifeq, o_iceq, o_ifne, o_icne, o_iflt, o_iclt, o_ifge, o_icge, o_ifgt, o_icgt, o_ifle, o_icle, o_at, o_iret, o_lret, o_fret, o_dret, o_zret, o_cret, o_vret, o_aret, o_get, o_put, o_new, o_ald, o_iast, o_last, o_dast, o_aast, o_alen, o_newa, o_cast, o_acmpeq, o_acmpne, o_calls, o_callv, o_calln, o_calli, o_obj, o_throw, o_callh, o_sw, o_acopy, lg, lset1, lset2, lk, aPop, Value.category, List.map_cons, List.map_nil, List.sum_cons, List.sum_nil, Option.toList, List.cons_append, List.nil_append, true_and, and_true, aTFit, if_true, if_false, kV, eq_self, and_self]
    refine bX0_putInOrder_10 (by omega) _ _ _ _ _ ?_
    try simp only [o_iadd, o_isub, o_imul, o_iand, o_ladd, o_lsub, o_lmul, o_land, o_lxor, o_ineg, o_lneg, o_i2l, o_l2i, o_i2f, o_l2d, o_lcmp, o_dcmp, o_fcmp, o_ldiv, o_lrem, o_fdiv, o_ddiv, o_f2d, o_c, o_iload, o_lload, o_fload, o_dload, o_aload, o_istore, o_lstore, o_fstore, o_dstore, o_astore, o_iinc, o_dup, o_pop, o_dupx1, o_dup2, o_dup2l, o_ifeq, o_iceq, o_ifne, o_icne, o_iflt, o_iclt, o_ifge, o_icge, o_ifgt, o_icgt, o_ifle, o_icle, o_at, o_iret, o_lret, o_fret, o_dret, o_zret, o_cret, o_vret, o_aret, o_get, o_put, o_new, o_ald, o_iast, o_last, o_dast, o_aast, o_alen, o_newa, o_cast, o_acmpeq, o_acmpne, o_calls, o_callv, o_calln, o_calli, o_obj, o_throw, o_callh, o_sw, o_acopy, lg, lset1, lset2, lk, aPop, Value.category, List.map_cons, List.map_nil, List.sum_cons, List.sum_nil, Option.toList, List.cons_append, List.nil_append, true_and, and_true, aTFit, if_true, if_false, kV, eq_self, and_self]
    refine ⟨fun c => absurd c (nI_ge (by omega) (by omega)), fun _ => ?_⟩
    suffices H2 : ∀ (u : Nat), plcZ (eX ls) i + u ≤ i → aSo G iX0_putInOrder d _ _ _ (fun kc2 ks2 L st h2 => L = [some (.ref b), some (.int (nI i)), some (.int (nI (plcZ (eX ls) i + u)))] ∧ st = [] ∧ j + 1 ≤ kc2 ∧ 10 * (j + 1) ≤ ks2 ∧ h2 = h1) 15 by
      refine H2 (i - plcZ (eX ls) i) (by omega) _ _ _ _ _ ⟨?_, rfl, by omega, by omega, rfl⟩
      rw [show plcZ (eX ls) i + (i - plcZ (eX ls) i) = i by omega]
    have h59 : ∀ kc2 ks2, j + 1 ≤ kc2 → 10 * (j + 1) ≤ ks2 → o_at G iX0_putInOrder d 9 90 (fun r h' => ∃ e' ys lq, r = .inl none ∧ Bv G h' b a e' ys pl wy cl lq ∧ ys.length = xs.length ∧ (∀ k, k < xs.length → lq (orderZ (eX ls) xs.length k) = ls k) ∧ (e' = e ∨ h e' = none) ∧ (∀ y ∈ ys, y ∈ xs) ∧ Fr G h h' b a e xs) 59 kc2 ks2 [some (.ref b), some (.int (nI i)), some (.int (nI (plcZ (eX ls) i)))] [] h1 := by
      intro kc2 ks2 hk2 hs2
      have hne : e' ≠ gE G := by
        rcases hr with ⟨-, z, -⟩ | ⟨z, -⟩
        · rw [z] at hin; exact absurd hin (Nat.not_lt_zero _)
        · exact z
      have hlen1 : (ys.eraseIdx i).length = ys.length - 1 := List.length_eraseIdx_of_lt hin
      have hkx : ∀ y ∈ ys, aKind h1 y (fun c => c = 2) := by
        intro y hy
        obtain ⟨p, hp, rfl⟩ := List.mem_iff_getElem.mp hy
        exact aKind.mk (hl p hp) rfl
      try simp only [o_iadd, o_isub, o_imul, o_iand, o_ladd, o_lsub, o_lmul, o_land, o_lxor, o_ineg, o_lneg, o_i2l, o_l2i, o_i2f, o_l2d, o_lcmp, o_dcmp, o_fcmp, o_ldiv, o_lrem, o_fdiv, o_ddiv, o_f2d, o_c, o_iload, o_lload, o_fload, o_dload, o_aload, o_istore, o_lstore, o_fstore, o_dstore, o_astore, o_iinc, o_dup, o_pop, o_dupx1, o_dup2, o_dup2l, o_ifeq, o_iceq, o_ifne, o_icne, o_iflt, o_iclt, o_ifge, o_icge, o_ifgt, o_icgt, o_ifle, o_icle, o_at, o_iret, o_lret, o_fret, o_dret, o_zret, o_cret, o_vret, o_aret, o_get, o_put, o_new, o_ald, o_iast, o_last, o_dast, o_aast, o_alen, o_newa, o_cast, o_acmpeq, o_acmpne, o_calls, o_callv, o_calln, o_calli, o_obj, o_throw, o_callh, o_sw, o_acopy, lg, lset1, lset2, lk, aPop, Value.category, List.map_cons, List.map_nil, List.sum_cons, List.sum_nil, Option.toList, List.cons_append, List.nil_append, true_and, and_true, aTFit, if_true, if_false, kV, eq_self, and_self]
      refine bX0_putInOrder_59 (by omega) _ _ _ _ _ ?_
      try simp only [o_iadd, o_isub, o_imul, o_iand, o_ladd, o_lsub, o_lmul, o_land, o_lxor, o_ineg, o_lneg, o_i2l, o_l2i, o_i2f, o_l2d, o_lcmp, o_dcmp, o_fcmp, o_ldiv, o_lrem, o_fdiv, o_ddiv, o_f2d, o_c, o_iload, o_lload, o_fload, o_dload, o_aload, o_istore, o_lstore, o_fstore, o_dstore, o_astore, o_iinc, o_dup, o_pop, o_dupx1, o_dup2, o_dup2l, o_ifeq, o_iceq, o_ifne, o_icne, o_iflt, o_iclt, o_ifge, o_icge, o_ifgt, o_icgt, o_ifle, o_icle, o_at, o_iret, o_lret, o_fret, o_dret, o_zret, o_cret, o_vret, o_aret, o_get, o_put, o_new, o_ald, o_iast, o_last, o_dast, o_aast, o_alen, o_newa, o_cast, o_acmpeq, o_acmpne, o_calls, o_callv, o_calln, o_calli, o_obj, o_throw, o_callh, o_sw, o_acopy, lg, lset1, lset2, lk, aPop, Value.category, List.map_cons, List.map_nil, List.sum_cons, List.sum_nil, Option.toList, List.cons_append, List.nil_append, true_and, and_true, aTFit, if_true, if_false, kV, eq_self, and_self]
      refine aObj.mk hb (aVal.mk rfl ?_)
      try simp only [o_iadd, o_isub, o_imul, o_iand, o_ladd, o_lsub, o_lmul, o_land, o_lxor, o_ineg, o_lneg, o_i2l, o_l2i, o_i2f, o_l2d, o_lcmp, o_dcmp, o_fcmp, o_ldiv, o_lrem, o_fdiv, o_ddiv, o_f2d, o_c, o_iload, o_lload, o_fload, o_dload, o_aload, o_istore, o_lstore, o_fstore, o_dstore, o_astore, o_iinc, o_dup, o_pop, o_dupx1, o_dup2, o_dup2l, o_ifeq, o_iceq, o_ifne, o_icne, o_iflt, o_iclt, o_ifge, o_icge, o_ifgt, o_icgt, o_ifle, o_icle, o_at, o_iret, o_lret, o_fret, o_dret, o_zret, o_cret, o_vret, o_aret, o_get, o_put, o_new, o_ald, o_iast, o_last, o_dast, o_aast, o_alen, o_newa, o_cast, o_acmpeq, o_acmpne, o_calls, o_callv, o_calln, o_calli, o_obj, o_throw, o_callh, o_sw, o_acopy, lg, lset1, lset2, lk, aPop, Value.category, List.map_cons, List.map_nil, List.sum_cons, List.sum_nil, Option.toList, List.cons_append, List.nil_append, true_and, and_true, aTFit, if_true, if_false, kV, eq_self, and_self]
      refine aObj.mk hb (aVal.mk rfl ⟨Nat.le_of_ble_eq_true rfl, aKind.mk ha rfl, aCt.mk (c_alrem hst (by omega) h1 a e' i ys hal hin hkx) (Nat.zero_le _) (Nat.zero_le _) ?_⟩)
      rintro r h4 ⟨m', rfl, rfl, -⟩
      try simp only [o_iadd, o_isub, o_imul, o_iand, o_ladd, o_lsub, o_lmul, o_land, o_lxor, o_ineg, o_lneg, o_i2l, o_l2i, o_i2f, o_l2d, o_lcmp, o_dcmp, o_fcmp, o_ldiv, o_lrem, o_fdiv, o_ddiv, o_f2d, o_c, o_iload, o_lload, o_fload, o_dload, o_aload, o_istore, o_lstore, o_fstore, o_dstore, o_astore, o_iinc, o_dup, o_pop, o_dupx1, o_dup2, o_dup2l, o_ifeq, o_iceq, o_ifne, o_icne, o_iflt, o_iclt, o_ifge, o_icge, o_ifgt, o_icgt, o_ifle, o_icle, o_at, o_iret, o_lret, o_fret, o_dret, o_zret, o_cret, o_vret, o_aret, o_get, o_put, o_new, o_ald, o_iast, o_last, o_dast, o_aast, o_alen, o_newa, o_cast, o_acmpeq, o_acmpne, o_calls, o_callv, o_calln, o_calli, o_obj, o_throw, o_callh, o_sw, o_acopy, lg, lset1, lset2, lk, aPop, Value.category, List.map_cons, List.map_nil, List.sum_cons, List.sum_nil, Option.toList, List.cons_append, List.nil_append, true_and, and_true, aTFit, if_true, if_false, kV, eq_self, and_self]
      refine bX0_putInOrder_72 (by omega) _ _ _ _ _ ?_
      try simp only [o_iadd, o_isub, o_imul, o_iand, o_ladd, o_lsub, o_lmul, o_land, o_lxor, o_ineg, o_lneg, o_i2l, o_l2i, o_i2f, o_l2d, o_lcmp, o_dcmp, o_fcmp, o_ldiv, o_lrem, o_fdiv, o_ddiv, o_f2d, o_c, o_iload, o_lload, o_fload, o_dload, o_aload, o_istore, o_lstore, o_fstore, o_dstore, o_astore, o_iinc, o_dup, o_pop, o_dupx1, o_dup2, o_dup2l, o_ifeq, o_iceq, o_ifne, o_icne, o_iflt, o_iclt, o_ifge, o_icge, o_ifgt, o_icgt, o_ifle, o_icle, o_at, o_iret, o_lret, o_fret, o_dret, o_zret, o_cret, o_vret, o_aret, o_get, o_put, o_new, o_ald, o_iast, o_last, o_dast, o_aast, o_alen, o_newa, o_cast, o_acmpeq, o_acmpne, o_calls, o_callv, o_calln, o_calli, o_obj, o_throw, o_callh, o_sw, o_acopy, lg, lset1, lset2, lk, aPop, Value.category, List.map_cons, List.map_nil, List.sum_cons, List.sum_nil, Option.toList, List.cons_append, List.nil_append, true_and, and_true, aTFit, if_true, if_false, kV, eq_self, and_self]
      obtain ⟨⟨vb, kb⟩, ⟨va, ka⟩, ⟨k9, ve, ke, hk9⟩, kx⟩ := hB1.kinds
      have hkeep : ∀ y ∈ ys, aKind (alUp G h1 a m' e' (ys.eraseIdx i)) y (fun c => c = 2) := by
        intro y hy
        obtain ⟨v, hv⟩ := kx y hy
        refine aKind.mk ((alUp_ne (kd_ne hv ka (by decide)) (Or.inl (kd_ne hv ke ?_))).trans hv) rfl
        rcases hk9 with rfl | rfl <;> decide
      obtain ⟨c2, vs2, hc2, rfl⟩ := (hkeep _ (List.getElem_mem hin)).of
      refine aKind.mk hc2 ⟨rfl, ?_⟩
      have hal2 := isAL_alUp (m := m') hal (Or.inl rfl) (Or.inl hne) (ys := ys.eraseIdx i) (by omega)
      obtain ⟨-, ⟨m5, ha5⟩, -⟩ := id hal2
      refine ⟨Nat.le_of_ble_eq_true rfl, aKind.mk ha5 rfl, aCt.mk (c_alins hst (by omega) _ a e' (plcZ (eX ls) i) _ _ hal2 (by omega) (by omega) (aKind.mk hc2 rfl) (fun y hy => hkeep y ((List.eraseIdx_sublist ys i).subset hy))) (by omega) (by omega) ?_⟩
      rintro r h4 ⟨m'', e'', rfl, rfl, hne2, he2⟩
      try simp only [o_iadd, o_isub, o_imul, o_iand, o_ladd, o_lsub, o_lmul, o_land, o_lxor, o_ineg, o_lneg, o_i2l, o_l2i, o_i2f, o_l2d, o_lcmp, o_dcmp, o_fcmp, o_ldiv, o_lrem, o_fdiv, o_ddiv, o_f2d, o_c, o_iload, o_lload, o_fload, o_dload, o_aload, o_istore, o_lstore, o_fstore, o_dstore, o_astore, o_iinc, o_dup, o_pop, o_dupx1, o_dup2, o_dup2l, o_ifeq, o_iceq, o_ifne, o_icne, o_iflt, o_iclt, o_ifge, o_icge, o_ifgt, o_icgt, o_ifle, o_icle, o_at, o_iret, o_lret, o_fret, o_dret, o_zret, o_cret, o_vret, o_aret, o_get, o_put, o_new, o_ald, o_iast, o_last, o_dast, o_aast, o_alen, o_newa, o_cast, o_acmpeq, o_acmpne, o_calls, o_callv, o_calln, o_calli, o_obj, o_throw, o_callh, o_sw, o_acopy, lg, lset1, lset2, lk, aPop, Value.category, List.map_cons, List.map_nil, List.sum_cons, List.sum_nil, Option.toList, List.cons_append, List.nil_append, true_and, and_true, aTFit, if_true, if_false, kV, eq_self, and_self]
      refine bX0_putInOrder_78 (by omega) _ _ _ _ _ ?_
      try simp only [o_iadd, o_isub, o_imul, o_iand, o_ladd, o_lsub, o_lmul, o_land, o_lxor, o_ineg, o_lneg, o_i2l, o_l2i, o_i2f, o_l2d, o_lcmp, o_dcmp, o_fcmp, o_ldiv, o_lrem, o_fdiv, o_ddiv, o_f2d, o_c, o_iload, o_lload, o_fload, o_dload, o_aload, o_istore, o_lstore, o_fstore, o_dstore, o_astore, o_iinc, o_dup, o_pop, o_dupx1, o_dup2, o_dup2l, o_ifeq, o_iceq, o_ifne, o_icne, o_iflt, o_iclt, o_ifge, o_icge, o_ifgt, o_icgt, o_ifle, o_icle, o_at, o_iret, o_lret, o_fret, o_dret, o_zret, o_cret, o_vret, o_aret, o_get, o_put, o_new, o_ald, o_iast, o_last, o_dast, o_aast, o_alen, o_newa, o_cast, o_acmpeq, o_acmpne, o_calls, o_callv, o_calln, o_calli, o_obj, o_throw, o_callh, o_sw, o_acopy, lg, lset1, lset2, lk, aPop, Value.category, List.map_cons, List.map_nil, List.sum_cons, List.sum_nil, Option.toList, List.cons_append, List.nil_append, true_and, and_true, aTFit, if_true, if_false, kV, eq_self, and_self]
      rw [nI_1]
      have he3 : e'' = e' ∨ h1 e'' = none := he2.imp id alUp_none
      have hlen2 : ((ys.eraseIdx i).insertIdx (plcZ (eX ls) i) ys[i]).length = ys.length := by
        rw [List.length_insertIdx_of_le_length (by omega), hlen1]; omega
      refine ih (i + 1) (by omega) (by omega) (by omega) _ _ _ _ _ ⟨⟨_, rfl⟩, rfl, by omega, by omega, e'', _, _, hB1.move hin hpl9 hne hne2 he2, by omega, fun k hk => ?_, ?_, ?_, ?_, ?_⟩
      · rw [mv_pos]
        exact hq k hk
      · rcases he3 with z | z
        · exact z ▸ he
        · exact Or.inr (hF.1 _ z)
      · intro y hy
        rcases List.mem_insertIdx (by omega) |>.mp hy with z | z
        · rw [z]; exact hys _ (List.getElem_mem hin)
        · exact hys y ((List.eraseIdx_sublist ys i).subset z)
      · intro z hz
        exact hF.1 z (alUp_none (alUp_none hz))
      · intro z z1 z2 z3 z4 z5
        have hz' : z ≠ e' ∨ z = gE G := by
          rcases he with w2 | w2
          · rw [w2]; exact z4
          · exact Or.inl (fun w3 => z1 (w3 ▸ w2))
        have hz'' : z ≠ e'' ∨ z = gE G := by
          rcases he3 with w | w
          · rw [w]; exact hz'
          · exact Or.inl (fun w3 => z1 (w3 ▸ hF.1 _ w))
        exact (alUp_ne z3 hz'').trans ((alUp_ne z3 hz').trans (hF.2 z z1 z2 z3 z4 z5))
    have hqi : lq i = ls i := by
      have := hq i (by omega)
      rw [posZ, if_neg (Nat.lt_irrefl i)] at this
      exact this
    have h15 : ∀ T, 1 ≤ T → T ≤ i → ∀ kc2 ks2, (plcZ (eX ls) i ≤ T - 1 → o_at G iX0_putInOrder d 9 90 (fun r h' => ∃ e' ys lq, r = .inl none ∧ Bv G h' b a e' ys pl wy cl lq ∧ ys.length = xs.length ∧ (∀ k, k < xs.length → lq (orderZ (eX ls) xs.length k) = ls k) ∧ (e' = e ∨ h e' = none) ∧ (∀ y ∈ ys, y ∈ xs) ∧ Fr G h h' b a e xs) 15 kc2 ks2 [some (.ref b), some (.int (nI i)), some (.int (nI (T - 1)))] [] h1) → (¬ plcZ (eX ls) i ≤ T - 1 → o_at G iX0_putInOrder d 9 90 (fun r h' => ∃ e' ys lq, r = .inl none ∧ Bv G h' b a e' ys pl wy cl lq ∧ ys.length = xs.length ∧ (∀ k, k < xs.length → lq (orderZ (eX ls) xs.length k) = ls k) ∧ (e' = e ∨ h e' = none) ∧ (∀ y ∈ ys, y ∈ xs) ∧ Fr G h h' b a e xs) 59 kc2 ks2 [some (.ref b), some (.int (nI i)), some (.int (nI T))] [] h1) → o_at G iX0_putInOrder d 9 90 (fun r h' => ∃ e' ys lq, r = .inl none ∧ Bv G h' b a e' ys pl wy cl lq ∧ ys.length = xs.length ∧ (∀ k, k < xs.length → lq (orderZ (eX ls) xs.length k) = ls k) ∧ (e' = e ∨ h e' = none) ∧ (∀ y ∈ ys, y ∈ xs) ∧ Fr G h h' b a e xs) 15 kc2 ks2 [some (.ref b), some (.int (nI i)), some (.int (nI T))] [] h1 := by
      intro T hT1 hTi kc2 ks2 hA hB9
      obtain ⟨k, hk, hk2⟩ := perm_surj (f := orderZ (eX ls) i) (p := T - 1) (fun j hj => order_lt' (eX ls) hj) (order_inj (eX ls)) (by omega)
      have hqk : lq (T - 1) = ls k := by
        have := hq k (by omega)
        rw [posZ, if_pos hk, hk2] at this
        exact this
      have hcmp := order_plc (eX ls) hk
      rw [hk2] at hcmp
      simp only [o_at] at hA hB9 ⊢
      refine bX0_putInOrder_15 (by omega) _ _ _ _ _ ?_
      try simp only [o_iadd, o_isub, o_imul, o_iand, o_ladd, o_lsub, o_lmul, o_land, o_lxor, o_ineg, o_lneg, o_i2l, o_l2i, o_i2f, o_l2d, o_lcmp, o_dcmp, o_fcmp, o_ldiv, o_lrem, o_fdiv, o_ddiv, o_f2d, o_c, o_iload, o_lload, o_fload, o_dload, o_aload, o_istore, o_lstore, o_fstore, o_dstore, o_astore, o_iinc, o_dup, o_pop, o_dupx1, o_dup2, o_dup2l, o_ifeq, o_iceq, o_ifne, o_icne, o_iflt, o_iclt, o_ifge, o_icge, o_ifgt, o_icgt, o_ifle, o_icle, o_at, o_iret, o_lret, o_fret, o_dret, o_zret, o_cret, o_vret, o_aret, o_get, o_put, o_new, o_ald, o_iast, o_last, o_dast, o_aast, o_alen, o_newa, o_cast, o_acmpeq, o_acmpne, o_calls, o_callv, o_calln, o_calli, o_obj, o_throw, o_callh, o_sw, o_acopy, lg, lset1, lset2, lk, aPop, Value.category, List.map_cons, List.map_nil, List.sum_cons, List.sum_nil, Option.toList, List.cons_append, List.nil_append, true_and, and_true, aTFit, if_true, if_false, kV, eq_self, and_self]
      refine ⟨fun c => absurd c (nI_nle (by omega) (by omega)), fun _ => ?_⟩
      rw [nI_sub1 hT1]
      refine aObj.mk hb (aVal.mk rfl ⟨Nat.le_of_ble_eq_true rfl, aKind.mk ha rfl, aCt.mk (c_alget hst (by omega) h1 a e' (T - 1) ys hal (by omega)) (Nat.zero_le _) (Nat.zero_le _) ?_⟩)
      rintro r h4 ⟨rfl, hh⟩
      obtain rfl := hh.symm
      try simp only [o_iadd, o_isub, o_imul, o_iand, o_ladd, o_lsub, o_lmul, o_land, o_lxor, o_ineg, o_lneg, o_i2l, o_l2i, o_i2f, o_l2d, o_lcmp, o_dcmp, o_fcmp, o_ldiv, o_lrem, o_fdiv, o_ddiv, o_f2d, o_c, o_iload, o_lload, o_fload, o_dload, o_aload, o_istore, o_lstore, o_fstore, o_dstore, o_astore, o_iinc, o_dup, o_pop, o_dupx1, o_dup2, o_dup2l, o_ifeq, o_iceq, o_ifne, o_icne, o_iflt, o_iclt, o_ifge, o_icge, o_ifgt, o_icgt, o_ifle, o_icle, o_at, o_iret, o_lret, o_fret, o_dret, o_zret, o_cret, o_vret, o_aret, o_get, o_put, o_new, o_ald, o_iast, o_last, o_dast, o_aast, o_alen, o_newa, o_cast, o_acmpeq, o_acmpne, o_calls, o_callv, o_calln, o_calli, o_obj, o_throw, o_callh, o_sw, o_acopy, lg, lset1, lset2, lk, aPop, Value.category, List.map_cons, List.map_nil, List.sum_cons, List.sum_nil, Option.toList, List.cons_append, List.nil_append, true_and, and_true, aTFit, if_true, if_false, kV, eq_self, and_self]
      refine bX0_putInOrder_29 (by omega) _ _ _ _ _ ?_
      try simp only [o_iadd, o_isub, o_imul, o_iand, o_ladd, o_lsub, o_lmul, o_land, o_lxor, o_ineg, o_lneg, o_i2l, o_l2i, o_i2f, o_l2d, o_lcmp, o_dcmp, o_fcmp, o_ldiv, o_lrem, o_fdiv, o_ddiv, o_f2d, o_c, o_iload, o_lload, o_fload, o_dload, o_aload, o_istore, o_lstore, o_fstore, o_dstore, o_astore, o_iinc, o_dup, o_pop, o_dupx1, o_dup2, o_dup2l, o_ifeq, o_iceq, o_ifne, o_icne, o_iflt, o_iclt, o_ifge, o_icge, o_ifgt, o_icgt, o_ifle, o_icle, o_at, o_iret, o_lret, o_fret, o_dret, o_zret, o_cret, o_vret, o_aret, o_get, o_put, o_new, o_ald, o_iast, o_last, o_dast, o_aast, o_alen, o_newa, o_cast, o_acmpeq, o_acmpne, o_calls, o_callv, o_calln, o_calli, o_obj, o_throw, o_callh, o_sw, o_acopy, lg, lset1, lset2, lk, aPop, Value.category, List.map_cons, List.map_nil, List.sum_cons, List.sum_nil, Option.toList, List.cons_append, List.nil_append, true_and, and_true, aTFit, if_true, if_false, kV, eq_self, and_self]
      refine aKind.mk (hl (T - 1) (by omega)) ⟨rfl, aObj.mk (hl (T - 1) (by omega)) (aVal.mk rfl ?_)⟩
      try simp only [o_iadd, o_isub, o_imul, o_iand, o_ladd, o_lsub, o_lmul, o_land, o_lxor, o_ineg, o_lneg, o_i2l, o_l2i, o_i2f, o_l2d, o_lcmp, o_dcmp, o_fcmp, o_ldiv, o_lrem, o_fdiv, o_ddiv, o_f2d, o_c, o_iload, o_lload, o_fload, o_dload, o_aload, o_istore, o_lstore, o_fstore, o_dstore, o_astore, o_iinc, o_dup, o_pop, o_dupx1, o_dup2, o_dup2l, o_ifeq, o_iceq, o_ifne, o_icne, o_iflt, o_iclt, o_ifge, o_icge, o_ifgt, o_icgt, o_ifle, o_icle, o_at, o_iret, o_lret, o_fret, o_dret, o_zret, o_cret, o_vret, o_aret, o_get, o_put, o_new, o_ald, o_iast, o_last, o_dast, o_aast, o_alen, o_newa, o_cast, o_acmpeq, o_acmpne, o_calls, o_callv, o_calln, o_calli, o_obj, o_throw, o_callh, o_sw, o_acopy, lg, lset1, lset2, lk, aPop, Value.category, List.map_cons, List.map_nil, List.sum_cons, List.sum_nil, Option.toList, List.cons_append, List.nil_append, true_and, and_true, aTFit, if_true, if_false, kV, eq_self, and_self]
      refine aObj.mk hb (aVal.mk rfl ⟨Nat.le_of_ble_eq_true rfl, aKind.mk ha rfl, aCt.mk (c_alget hst (by omega) h1 a e' i ys hal hin) (Nat.zero_le _) (Nat.zero_le _) ?_⟩)
      rintro r h4 ⟨rfl, hh⟩
      obtain rfl := hh.symm
      try simp only [o_iadd, o_isub, o_imul, o_iand, o_ladd, o_lsub, o_lmul, o_land, o_lxor, o_ineg, o_lneg, o_i2l, o_l2i, o_i2f, o_l2d, o_lcmp, o_dcmp, o_fcmp, o_ldiv, o_lrem, o_fdiv, o_ddiv, o_f2d, o_c, o_iload, o_lload, o_fload, o_dload, o_aload, o_istore, o_lstore, o_fstore, o_dstore, o_astore, o_iinc, o_dup, o_pop, o_dupx1, o_dup2, o_dup2l, o_ifeq, o_iceq, o_ifne, o_icne, o_iflt, o_iclt, o_ifge, o_icge, o_ifgt, o_icgt, o_ifle, o_icle, o_at, o_iret, o_lret, o_fret, o_dret, o_zret, o_cret, o_vret, o_aret, o_get, o_put, o_new, o_ald, o_iast, o_last, o_dast, o_aast, o_alen, o_newa, o_cast, o_acmpeq, o_acmpne, o_calls, o_callv, o_calln, o_calli, o_obj, o_throw, o_callh, o_sw, o_acopy, lg, lset1, lset2, lk, aPop, Value.category, List.map_cons, List.map_nil, List.sum_cons, List.sum_nil, Option.toList, List.cons_append, List.nil_append, true_and, and_true, aTFit, if_true, if_false, kV, eq_self, and_self]
      refine bX0_putInOrder_43 (by omega) _ _ _ _ _ ?_
      try simp only [o_iadd, o_isub, o_imul, o_iand, o_ladd, o_lsub, o_lmul, o_land, o_lxor, o_ineg, o_lneg, o_i2l, o_l2i, o_i2f, o_l2d, o_lcmp, o_dcmp, o_fcmp, o_ldiv, o_lrem, o_fdiv, o_ddiv, o_f2d, o_c, o_iload, o_lload, o_fload, o_dload, o_aload, o_istore, o_lstore, o_fstore, o_dstore, o_astore, o_iinc, o_dup, o_pop, o_dupx1, o_dup2, o_dup2l, o_ifeq, o_iceq, o_ifne, o_icne, o_iflt, o_iclt, o_ifge, o_icge, o_ifgt, o_icgt, o_ifle, o_icle, o_at, o_iret, o_lret, o_fret, o_dret, o_zret, o_cret, o_vret, o_aret, o_get, o_put, o_new, o_ald, o_iast, o_last, o_dast, o_aast, o_alen, o_newa, o_cast, o_acmpeq, o_acmpne, o_calls, o_callv, o_calln, o_calli, o_obj, o_throw, o_callh, o_sw, o_acopy, lg, lset1, lset2, lk, aPop, Value.category, List.map_cons, List.map_nil, List.sum_cons, List.sum_nil, Option.toList, List.cons_append, List.nil_append, true_and, and_true, aTFit, if_true, if_false, kV, eq_self, and_self, lg_cmp_le]
      refine aKind.mk (hl i hin) ⟨rfl, aObj.mk (hl i hin) (aVal.mk rfl ?_)⟩
      try simp only [o_iadd, o_isub, o_imul, o_iand, o_ladd, o_lsub, o_lmul, o_land, o_lxor, o_ineg, o_lneg, o_i2l, o_l2i, o_i2f, o_l2d, o_lcmp, o_dcmp, o_fcmp, o_ldiv, o_lrem, o_fdiv, o_ddiv, o_f2d, o_c, o_iload, o_lload, o_fload, o_dload, o_aload, o_istore, o_lstore, o_fstore, o_dstore, o_astore, o_iinc, o_dup, o_pop, o_dupx1, o_dup2, o_dup2l, o_ifeq, o_iceq, o_ifne, o_icne, o_iflt, o_iclt, o_ifge, o_icge, o_ifgt, o_icgt, o_ifle, o_icle, o_at, o_iret, o_lret, o_fret, o_dret, o_zret, o_cret, o_vret, o_aret, o_get, o_put, o_new, o_ald, o_iast, o_last, o_dast, o_aast, o_alen, o_newa, o_cast, o_acmpeq, o_acmpne, o_calls, o_callv, o_calln, o_calli, o_obj, o_throw, o_callh, o_sw, o_acopy, lg, lset1, lset2, lk, aPop, Value.category, List.map_cons, List.map_nil, List.sum_cons, List.sum_nil, Option.toList, List.cons_append, List.nil_append, true_and, and_true, aTFit, if_true, if_false, kV, eq_self, and_self, lg_cmp_le]
      rw [hqk, hqi, LI_le (Bg_ex (hok k (by omega))) (Bg_ex (hok i (by omega)))]
      refine ⟨fun c => hB9 (fun z => ?_), fun c => ?_⟩
      · have := hcmp.mpr z
        unfold eX at this
        omega
      · have h8 := hA (hcmp.mp (by unfold eX; omega))
        rw [show nI T + -1 = nI (T - 1) by rw [← nI_sub1 hT1, Int32.sub_eq_add_neg]]
        exact h8
    intro u
    induction u with
    | zero =>
      rintro hu kc2 ks2 L st h2 ⟨rfl, rfl, hk2, hs2, hh⟩
      obtain rfl := hh.symm
      rw [Nat.add_zero]
      by_cases c : plcZ (eX ls) i = 0
      · rw [c]
        rw [c] at h59
        refine bX0_putInOrder_15 (by omega) _ _ _ _ _ ?_
        try simp only [o_iadd, o_isub, o_imul, o_iand, o_ladd, o_lsub, o_lmul, o_land, o_lxor, o_ineg, o_lneg, o_i2l, o_l2i, o_i2f, o_l2d, o_lcmp, o_dcmp, o_fcmp, o_ldiv, o_lrem, o_fdiv, o_ddiv, o_f2d, o_c, o_iload, o_lload, o_fload, o_dload, o_aload, o_istore, o_lstore, o_fstore, o_dstore, o_astore, o_iinc, o_dup, o_pop, o_dupx1, o_dup2, o_dup2l, o_ifeq, o_iceq, o_ifne, o_icne, o_iflt, o_iclt, o_ifge, o_icge, o_ifgt, o_icgt, o_ifle, o_icle, o_at, o_iret, o_lret, o_fret, o_dret, o_zret, o_cret, o_vret, o_aret, o_get, o_put, o_new, o_ald, o_iast, o_last, o_dast, o_aast, o_alen, o_newa, o_cast, o_acmpeq, o_acmpne, o_calls, o_callv, o_calln, o_calli, o_obj, o_throw, o_callh, o_sw, o_acopy, lg, lset1, lset2, lk, aPop, Value.category, List.map_cons, List.map_nil, List.sum_cons, List.sum_nil, Option.toList, List.cons_append, List.nil_append, true_and, and_true, aTFit, if_true, if_false, kV, eq_self, and_self]
        exact ⟨fun _ => h59 _ _ hk2 hs2, fun z => absurd (by decide) z⟩
      · exact h15 _ (by omega) (by omega) _ _ (fun z => absurd z (by omega)) (fun _ => h59 _ _ hk2 hs2)
    | succ u ihu =>
      rintro hu kc2 ks2 L st h2 ⟨rfl, rfl, hk2, hs2, hh⟩
      obtain rfl := hh.symm
      refine h15 _ (by omega) (by omega) _ _ (fun _ => ?_) (fun z => absurd z (by omega))
      exact ihu (by omega) _ _ _ _ _ ⟨rfl, rfl, hk2, hs2, rfl⟩
end SortC
