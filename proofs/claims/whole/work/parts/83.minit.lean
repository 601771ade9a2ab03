/-! the reference made -/
theorem bX3_init_0 {G : gG} {d mc ms : Nat} {K : aR → aH → Prop} (hd : 12 ≤ d) : aSo G iX3_init d mc ms K (o_aload 0 (o_obj (o_aload 0 (o_c (.int (3)) (o_newa 10 (.int 0) (o_dup (o_c (.int (0)) (o_c (.int (2)) (o_iast (o_dup (o_c (.int (1)) (o_c (.int (2)) (o_iast (o_dup (o_c (.int (2)) (o_c (.int (2)) (o_iast (o_put 3 0 (.array .int) (o_aload 0 (o_c (.int (3)) (o_newa 10 (.int 0) (o_dup (o_c (.int (0)) (o_c (.int (6)) (o_iast (o_dup (o_c (.int (1)) (o_c (.int (6)) (o_iast (o_dup (o_c (.int (2)) (o_c (.int (6)) (o_iast (o_put 3 1 (.array .int) (o_aload 0 (o_c (.int (3)) (o_newa 10 (.int 0) (o_put 3 2 (.array .int) (o_aload 0 (o_c (.int (3)) (o_newa 10 (.int 0) (o_put 3 3 (.array .int) (o_aload 0 (o_c (.int (3)) (o_c (.int (9)) (o_c (.int (4)) (o_mna3 (o_put 3 4 (.array (.array (.array .int))) (o_aload 0 (o_c (.int (3)) (o_c (.int (9)) (o_mna2 (o_put 3 5 (.array (.array .long)) (o_vret K)))))))))))))))))))))))))))))))))))))))))))))))))))))) 0 := (s_aload_n 0 rfl (by decide +kernel) (s_obj (by omega) wd_1114 wd_66 wd_obj (by decide +kernel) (s_aload_n 0 rfl (by decide +kernel) (s_iconst (3) (by decide +kernel) (by decide) (s_newa .int (Or.inl ⟨rfl, rfl, rfl⟩) wd_1142 (by decide +kernel) (s_dup (by decide +kernel) (s_iconst (0) (by decide +kernel) (by decide) (s_iconst (2) (by decide +kernel) (by decide) (s_iast (by decide +kernel) (s_dup (by decide +kernel) (s_iconst (1) (by decide +kernel) (by decide) (s_iconst (2) (by decide +kernel) (by decide) (s_iast (by decide +kernel) (s_dup (by decide +kernel) (s_iconst (2) (by decide +kernel) (by decide) (s_iconst (2) (by decide +kernel) (by decide) (s_iast (by decide +kernel) (s_put 3 0 (.array .int) _ rfl (by decide) (by decide +kernel) wd_1120 (Or.inl rfl) (Or.inr ⟨rfl, rfl, rfl⟩) (by decide +kernel) (s_aload_n 0 rfl (by decide +kernel) (s_iconst (3) (by decide +kernel) (by decide) (s_newa .int (Or.inl ⟨rfl, rfl, rfl⟩) wd_1142 (by decide +kernel) (s_dup (by decide +kernel) (s_iconst (0) (by decide +kernel) (by decide) (s_bipush (6) (by decide +kernel) (by decide) (s_iast (by decide +kernel) (s_dup (by decide +kernel) (s_iconst (1) (by decide +kernel) (by decide) (s_bipush (6) (by decide +kernel) (by decide) (s_iast (by decide +kernel) (s_dup (by decide +kernel) (s_iconst (2) (by decide +kernel) (by decide) (s_bipush (6) (by decide +kernel) (by decide) (s_iast (by decide +kernel) (s_put 3 1 (.array .int) _ rfl (by decide) (by decide +kernel) wd_1121 (Or.inl rfl) (Or.inr ⟨rfl, rfl, rfl⟩) (by decide +kernel) (s_aload_n 0 rfl (by decide +kernel) (s_iconst (3) (by decide +kernel) (by decide) (s_newa .int (Or.inl ⟨rfl, rfl, rfl⟩) wd_1142 (by decide +kernel) (s_put 3 2 (.array .int) _ rfl (by decide) (by decide +kernel) wd_1122 (Or.inl rfl) (Or.inr ⟨rfl, rfl, rfl⟩) (by decide +kernel) (s_aload_n 0 rfl (by decide +kernel) (s_iconst (3) (by decide +kernel) (by decide) (s_newa .int (Or.inl ⟨rfl, rfl, rfl⟩) wd_1142 (by decide +kernel) (s_put 3 3 (.array .int) _ rfl (by decide) (by decide +kernel) wd_1123 (Or.inl rfl) (Or.inr ⟨rfl, rfl, rfl⟩) (by decide +kernel) (s_aload_n 0 rfl (by decide +kernel) (s_iconst (3) (by decide +kernel) (by decide) (s_bipush (9) (by decide +kernel) (by decide) (s_iconst (4) (by decide +kernel) (by decide) (s_mna3 wd_1115 (by decide +kernel) (s_put 3 4 (.array (.array (.array .int))) _ rfl (by decide) (by decide +kernel) wd_1124 (Or.inl rfl) (Or.inr ⟨rfl, rfl, rfl⟩) (by decide +kernel) (s_aload_n 0 rfl (by decide +kernel) (s_iconst (3) (by decide +kernel) (by decide) (s_bipush (9) (by decide +kernel) (by decide) (s_mna2 wd_1118 (by decide +kernel) (s_put 3 5 (.array (.array .long)) _ rfl (by decide) (by decide +kernel) wd_1125 (Or.inl rfl) (Or.inr ⟨rfl, rfl, rfl⟩) (by decide +kernel) (s_vret (by decide +kernel) rfl))))))))))))))))))))))))))))))))))))))))))))))))))))))
section MInit
variable {G : gG} {d : Nat} {h : aH} {m : Nat}
theorem zH3_old {b z : Nat} {c : aC} (hb : ∀ q, b ≤ q → h q = none) (hz : h z = some c) : zH3 h b z = some c ∧ z < b := by
  have hl : z < b := by
    rcases Nat.lt_or_ge z b with w | w
    · exact w
    · rw [hb z w] at hz
      cases hz
  refine ⟨?_, hl⟩
  unfold zH3
  rw [if_neg (by omega), if_neg (by omega)]
  exact hz
theorem zH2_old {b z : Nat} {c : aC} (hb : ∀ q, b ≤ q → h q = none) (hz : h z = some c) : zH2 h b z = some c ∧ z < b := by
  have hl : z < b := by
    rcases Nat.lt_or_ge z b with w | w
    · exact w
    · rw [hb z w] at hz
      cases hz
  refine ⟨?_, hl⟩
  unfold zH2
  rw [if_neg (by omega), if_neg (by omega)]
  exact hz
theorem zH3_row (b : Nat) {i : Nat} (hi : i < 3) : zH3 h b (b + 1 + i * 10) = some (15, (List.range 9).map fun j => .ref (b + 1 + i * 10 + 1 + j * 1)) := by
  unfold zH3
  rw [if_neg (by omega), if_pos (by omega), if_pos (by omega)]
theorem zH2_row (b : Nat) {i : Nat} (hi : i < 3) : zH2 h b (b + 1 + i * 1) = some (11, List.replicate 9 (.long 0)) := by
  unfold zH2
  rw [if_neg (by omega), if_pos (by omega)]
theorem st_arr {P : Nat} {F F2 V : List Value} (hm : h m = some (3, F)) (hP : h P = none) : aUp (aUp h P (10, V)) m (3, F2) P = some (10, V) ∧ aUp (aUp h P (10, V)) m (3, F2) m = some (3, F2) ∧ ∀ z c, z ≠ m → h z = some c → aUp (aUp h P (10, V)) m (3, F2) z = some c ∧ z ≠ P := by
  have hmP : m ≠ P := fr_ne hm hP
  refine ⟨(aUp_ne hmP.symm).trans (aUp_eq _ _ _), aUp_eq _ _ _, fun z c hz e => ?_⟩
  have hzP := fr_ne e hP
  exact ⟨(aUp_ne hz).trans ((aUp_ne hzP).trans e), hzP⟩
theorem g_init (hst : (gl G).stackTraces = false) (hd : 16 ≤ d) (hm : h m = some (3, [.null, .null, .null, .null, .null, .null, .int 0])) : CT G iX3_init d 39 180 [.ref m] h (fun r h' => r = .inl none ∧ ∃ tt : Nat → Nat, Mod h' m tt 0 sS0 ∧ (∀ i, i < 3 → h (tt i) = none) ∧ ∀ z c, h z = some c → z ≠ m → h' z = some c) := by
  refine ct_of (L := [some (.ref m)]) (plainFor_of_name (by decide +kernel)) rfl hst rfl rfl (Nat.le_of_ble_eq_true rfl) ?_
  refine bX3_init_0 (by omega) _ _ _ _ _ ?_
  try simp only [o_mna3, o_mna2, o_sfmt, o_sget, o_salen, o_sbald, o_i2c, o_callS, o_iadd, o_isub, o_imul, o_iand, o_ladd, o_lsub, o_lmul, o_land, o_lxor, o_ineg, o_lneg, o_i2l, o_l2i, o_i2f, o_l2d, o_lcmp, o_dcmp, o_fcmp, o_ldiv, o_lrem, o_fdiv, o_ddiv, o_f2d, o_c, o_iload, o_lload, o_fload, o_dload, o_aload, o_istore, o_lstore, o_fstore, o_dstore, o_astore, o_iinc, o_dup, o_pop, o_dupx1, o_dup2, o_dup2l, o_ifeq, o_iceq, o_ifne, o_icne, o_iflt, o_iclt, o_ifge, o_icge, o_ifgt, o_icgt, o_ifle, o_icle, o_at, o_iret, o_lret, o_fret, o_dret, o_zret, o_cret, o_vret, o_aret, o_get, o_put, o_new, o_ald, o_iast, o_last, o_dast, o_aast, o_alen, o_newa, o_cast, o_acmpeq, o_acmpne, o_calls, o_callv, o_calln, o_calli, o_obj, o_throw, o_callh, o_sw, o_acopy, lg, lset1, lset2, lk, aPop, Value.category, List.map_cons, List.map_nil, List.sum_cons, List.sum_nil, Option.toList, List.cons_append, List.nil_append, true_and, and_true, aTFit, if_true, if_false, kV, eq_self, and_self]
  refine ⟨by decide, by decide, by decide, by decide, by decide, fun P hP => ?_⟩
  try rw [show (3 : Int32).toNatClampNeg = 3 from rfl]
  refine aArr.mk (aUp_eq _ _ _) (by decide) ⟨rfl, ⟨by decide, by decide⟩, ?_⟩
  refine aArr.mk (aUp_eq _ _ _) (by decide) ⟨rfl, ⟨by decide, by show 1 < 3; decide⟩, ?_⟩
  refine aArr.mk (aUp_eq _ _ _) (by decide) ⟨rfl, ⟨by decide, by show 2 < 3; decide⟩, ?_⟩
  try simp only [aUp_same]
  refine aObj.mk ((aUp_ne (fr_ne hm hP)).trans hm) ?_
  generalize eA : aUp (aUp h P _) m _ = hA
  obtain ⟨a1, a2, a3⟩ : hA P = some (10, iL fun k => (sS0 k).pl) ∧ hA m = some (3, [.ref P, .null, .null, .null, .null, .null, .int 0]) ∧ ∀ z c, z ≠ m → h z = some c → hA z = some c ∧ z ≠ P := by rw [← eA]; exact st_arr hm hP
  have mP : P ≠ m := (fr_ne hm hP).symm
  clear eA
  refine ⟨by decide, by decide, by decide, by decide, fun W hW => ?_⟩
  try rw [show (3 : Int32).toNatClampNeg = 3 from rfl]
  refine aArr.mk (aUp_eq _ _ _) (by decide) ⟨rfl, ⟨by decide, by decide⟩, ?_⟩
  refine aArr.mk (aUp_eq _ _ _) (by decide) ⟨rfl, ⟨by decide, by show 1 < 3; decide⟩, ?_⟩
  refine aArr.mk (aUp_eq _ _ _) (by decide) ⟨rfl, ⟨by decide, by show 2 < 3; decide⟩, ?_⟩
  try simp only [aUp_same]
  refine aObj.mk ((aUp_ne (fr_ne a2 hW)).trans a2) ?_
  generalize eB : aUp (aUp hA W _) m _ = hB
  obtain ⟨b1, b2, b3⟩ : hB W = some (10, iL fun k => (sS0 k).wy) ∧ hB m = some (3, [.ref P, .ref W, .null, .null, .null, .null, .int 0]) ∧ ∀ z c, z ≠ m → hA z = some c → hB z = some c ∧ z ≠ W := by rw [← eB]; exact st_arr a2 hW
  have mW : W ≠ m := (fr_ne a2 hW).symm
  clear eB
  refine ⟨by decide, by decide, by decide, by decide, fun C hC => ?_⟩
  try rw [show (3 : Int32).toNatClampNeg = 3 from rfl]
  refine aObj.mk ((aUp_ne (fr_ne b2 hC)).trans b2) ?_
  generalize eC : aUp (aUp hB C _) m _ = hC9
  obtain ⟨c1, c2, c3⟩ : hC9 C = some (10, iL fun k => (sS0 k).cl) ∧ hC9 m = some (3, [.ref P, .ref W, .ref C, .null, .null, .null, .int 0]) ∧ ∀ z c, z ≠ m → hB z = some c → hC9 z = some c ∧ z ≠ C := by rw [← eC]; exact st_arr b2 hC
  have mC : C ≠ m := (fr_ne b2 hC).symm
  clear eC
  refine ⟨by decide, by decide, by decide, by decide, fun Z hZ => ?_⟩
  try rw [show (3 : Int32).toNatClampNeg = 3 from rfl]
  refine aObj.mk ((aUp_ne (fr_ne c2 hZ)).trans c2) ?_
  generalize eD : aUp (aUp hC9 Z _) m _ = hD
  obtain ⟨d1, d2, d3⟩ : hD Z = some (10, iL fun k => (sS0 k).n) ∧ hD m = some (3, [.ref P, .ref W, .ref C, .ref Z, .null, .null, .int 0]) ∧ ∀ z c, z ≠ m → hC9 z = some c → hD z = some c ∧ z ≠ Z := by rw [← eD]; exact st_arr c2 hZ
  have mZ : Z ≠ m := (fr_ne c2 hZ).symm
  clear eD
  refine ⟨by decide, by decide, fun A hA9 => ?_⟩
  obtain ⟨y1, y2⟩ := zH3_old hA9 d2
  refine aObj.mk y1 ?_
  generalize eE : aUp (zH3 hD A) m _ = hE
  have e1 : hE A = some (16, rL fun i => A + 1 + i * 10) := by rw [← eE]; exact (aUp_ne (by omega)).trans (if_pos rfl)
  have e2 : hE m = some (3, [.ref P, .ref W, .ref C, .ref Z, .ref A, .null, .int 0]) := by rw [← eE]; exact aUp_eq _ _ _
  have e3 : ∀ z c, z ≠ m → hD z = some c → hE z = some c := fun z c hz e => by rw [← eE]; exact (aUp_ne hz).trans (zH3_old hA9 e).1
  have e4 : ∀ i, i < 3 → hE (A + 1 + i * 10) = some (15, (List.range 9).map fun j => .ref (A + 1 + i * 10 + 1 + j * 1)) := fun i hi => by rw [← eE]; exact (aUp_ne (by omega)).trans (zH3_row A hi)
  clear eE
  refine ⟨by decide, by decide, fun T hT9 => ?_⟩
  obtain ⟨x1, x2⟩ := zH2_old hT9 e2
  refine aObj.mk x1 ?_
  generalize eF : aUp (zH2 hE T) m _ = hF
  have f1 : hF T = some (17, rL fun i => T + 1 + i * 1) := by rw [← eF]; exact (aUp_ne (by omega)).trans (if_pos rfl)
  have f2 : hF m = some (3, mF P W C Z A T 0) := by rw [← eF]; exact aUp_eq _ _ _
  have f3 : ∀ z c, z ≠ m → hE z = some c → hF z = some c := fun z c hz e => by rw [← eF]; exact (aUp_ne hz).trans (zH2_old hT9 e).1
  have f4 : ∀ i, i < 3 → hF (T + 1 + i * 1) = some (11, List.replicate 9 (.long 0)) := fun i hi => by rw [← eF]; exact (aUp_ne (by omega)).trans (zH2_row T hi)
  clear eF
  have k1 : ∀ z c, z ≠ m → hD z = some c → hF z = some c := fun z c hz e => f3 z c hz (e3 z c hz e)
  have kC9 : ∀ z c, z ≠ m → hC9 z = some c → hF z = some c := fun z c hz e => k1 z c hz (d3 z c hz e).1
  have kB : ∀ z c, z ≠ m → hB z = some c → hF z = some c := fun z c hz e => kC9 z c hz (c3 z c hz e).1
  have kA : ∀ z c, z ≠ m → hA z = some c → hF z = some c := fun z c hz e => kB z c hz (b3 z c hz e).1
  have kh : ∀ z c, z ≠ m → h z = some c → hE z = some c := fun z c hz e => e3 z c hz (d3 z c hz (c3 z c hz (b3 z c hz (a3 z c hz e).1).1).1).1
  have pW : P ≠ W := (b3 P _ mP a1).2
  have pC : P ≠ C := (c3 P _ mP (b3 P _ mP a1).1).2
  have pZ : P ≠ Z := (d3 P _ mP (c3 P _ mP (b3 P _ mP a1).1).1).2
  have wC : W ≠ C := (c3 W _ mW b1).2
  have wZ : W ≠ Z := (d3 W _ mW (c3 W _ mW b1).1).2
  have cZ : C ≠ Z := (d3 C _ mC c1).2
  have mA : A ≠ m := by omega
  have hMD : MD P W C Z (fun i => A + 1 + i * 10) (fun i => T + 1 + i * 1) (fun _ => []) := by
    refine ⟨⟨pW, pC, pZ, wC, wZ, cZ⟩, ?_, ?_⟩
    · intro i hi y hy
      exact absurd hy List.not_mem_nil
    · intro i hi j hj hne
      refine ⟨?_, ?_, fun y hy => absurd hy List.not_mem_nil⟩
      · show A + 1 + j * 10 ≠ A + 1 + i * 10
        omega
      · show T + 1 + j * 1 ≠ T + 1 + i * 1
        omega
  have hMB : ∀ i, i < 3 → MB hF (A + 1 + i * 10) (T + 1 + i * 1) [] (sS0 i) := by
    intro i hi
    refine ⟨⟨_, f3 _ _ (by omega) (e4 i hi), by rw [List.length_map, List.length_range], ?_⟩, ⟨_, f4 i hi, List.length_replicate, ?_⟩, rfl, ?_, List.nodup_nil, ⟨Nat.zero_le _, by show 2 ≤ 3; decide, by show 6 ≤ 6; decide, Nat.zero_le _⟩, ?_, ?_⟩
    · intro k hk
      exact absurd hk (Nat.not_lt_zero _)
    · intro z
      exact absurd rfl z
    · intro k hk
      exact absurd hk (Nat.not_lt_zero _)
    · intro k hk
      exact absurd hk (Nat.not_lt_zero _)
    · intro z k hk
      exact absurd hk (Nat.not_lt_zero _)
  have hTN : ∀ i, i < 3 → h (T + 1 + i * 1) = none := by
    intro i hi
    cases e : h (T + 1 + i * 1) with
    | none => rfl
    | some c =>
      have z := kh _ c (by omega) e
      rw [hT9 _ (by omega)] at z
      cases z
  exact ⟨fun i => T + 1 + i * 1, ⟨P, W, C, Z, A, T, fun i => A + 1 + i * 10, fun _ => [], f2, kA P _ mP a1, kB W _ mW b1, kC9 C _ mC c1, k1 Z _ mZ d1, f3 A _ mA e1, f1, hMB, hMD⟩, hTN, fun z c e hz => f3 z c hz (kh z c hz e)⟩
end MInit
