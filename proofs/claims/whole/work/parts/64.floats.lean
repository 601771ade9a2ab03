/-! doubles and floats that are no NaN -/
section Floats
abbrev fT : Nat := 4503599627370496
theorem fl_tails : FP.Core.Fmt.tails FP.Core.b64 = 4503599627370496 := by decide +kernel
theorem fl_exps : FP.Core.Fmt.exps FP.Core.b64 = 2048 := by decide +kernel
theorem fl_qmin : FP.Core.Fmt.qmin FP.Core.b64 = -1074 := by decide +kernel
theorem fl_qmax : FP.Core.Fmt.qmax FP.Core.b64 = 971 := by decide +kernel
theorem fl_two : 2 ^ FP.Core.b64.p = 9007199254740992 := by decide +kernel
theorem fl_dec (s : Bool) (E T : Nat) (hE : E < 2048) (hT : T < 4503599627370496) : FP.Core.decode FP.Core.b64 (FP.Core.assemble FP.Core.b64 s E T) = if E = 2047 then (if T = 0 then .inf s else .nan) else if E = 0 then .fin s T (-1074) else .fin s (4503599627370496 + T) (-1074 + ((E : Int) - 1)) := by
  have e1 : FP.Core.fieldE FP.Core.b64 (FP.Core.assemble FP.Core.b64 s E T) = E := by
    unfold FP.Core.fieldE FP.Core.assemble
    rw [fl_tails, fl_exps]
    cases s <;> simp only [Bool.toNat_true, Bool.toNat_false] <;> omega
  have e2 : FP.Core.fieldT FP.Core.b64 (FP.Core.assemble FP.Core.b64 s E T) = T := by
    unfold FP.Core.fieldT FP.Core.assemble
    rw [fl_tails, fl_exps]
    omega
  have e3 : FP.Core.fieldS FP.Core.b64 (FP.Core.assemble FP.Core.b64 s E T) = s := by
    unfold FP.Core.fieldS FP.Core.assemble
    rw [fl_tails, fl_exps]
    cases s
    · rw [show ((false.toNat * 2048 + E) * 4503599627370496 + T) / 4503599627370496 / 2048 % 2 = 0 by simp only [Bool.toNat_false]; omega]; rfl
    · rw [show ((true.toNat * 2048 + E) * 4503599627370496 + T) / 4503599627370496 / 2048 % 2 = 1 by simp only [Bool.toNat_true]; omega]; rfl
  unfold FP.Core.decode
  rw [e1, e2, e3, fl_exps, fl_qmin, fl_tails]
theorem fl_lt (s : Bool) {E T : Nat} (hE : E < 2048) (hT : T < 4503599627370496) : FP.Core.assemble FP.Core.b64 s E T < 18446744073709551616 := by
  unfold FP.Core.assemble
  rw [fl_tails, fl_exps]
  cases s <;> simp only [Bool.toNat_true, Bool.toNat_false] <;> omega
theorem fl_nat (s : Bool) {E T : Nat} (hE : E < 2048) (hT : T < 4503599627370496) : (UInt64.ofNat (FP.Core.assemble FP.Core.b64 s E T)).toNat = FP.Core.assemble FP.Core.b64 s E T := UInt64.toNat_ofNat_of_lt' (by simpa using fl_lt s hE hT)
/-- fields of a datum that is no NaN -/
def flF (n : Nat) : Prop := ∃ (s : Bool) (E T : Nat), n = FP.Core.assemble FP.Core.b64 s E T ∧ E < 2048 ∧ T < 4503599627370496 ∧ (E = 2047 → T = 0)
theorem fl_inf (s : Bool) : flF (FP.Core.encode FP.Core.b64 (.inf s)) := ⟨s, 2047, 0, by unfold FP.Core.encode; rw [fl_exps], by decide, by decide, fun _ => rfl⟩
theorem fl_fin (s : Bool) {c : Nat} {q : Int} (hc : c < 9007199254740992) (hq : q ≤ 971) : flF (FP.Core.encode FP.Core.b64 (.fin s c q)) := by
  unfold FP.Core.encode
  rw [fl_tails, fl_qmin]
  by_cases h : c < 4503599627370496
  · simp only [if_pos h]
    exact ⟨s, 0, c, rfl, by decide, h, fun z => by cases z⟩
  · simp only [if_neg h]
    exact ⟨s, _, _, rfl, by omega, by omega, fun z => by omega⟩
theorem fl_bound (s : Bool) {c : Nat} {q : Int} (hc : c < 9007199254740992) : flF (FP.Core.encode FP.Core.b64 (FP.Core.bound FP.Core.b64 s c q)) := by
  unfold FP.Core.bound
  rw [fl_qmax]
  split
  · next h => exact fl_fin s hc h
  · exact fl_inf s
theorem fl_ratio (s : Bool) (a b : Nat) (e : Int) : flF (FP.Core.encode FP.Core.b64 (FP.Core.roundRatio FP.Core.b64 s a b e)) := by
  unfold FP.Core.roundRatio
  split
  · rw [fl_qmin]
    exact fl_fin s (by decide) (by decide)
  · unfold FP.Core.roundAt FP.Core.settle
    rw [fl_two, fl_tails]
    split
    · next h => exact fl_bound s h
    · exact fl_bound s (by decide)
theorem fl_n64 {n : Nat} (h : flF n) : vf_n64 (UInt64.ofNat n) := by
  obtain ⟨s, E, T, rfl, hE, hT, hN⟩ := h
  unfold vf_n64
  rw [UInt64.le_iff_toNat_le, UInt64.toNat_and, fl_nat s hE hT]
  rw [show (0x7fffffffffffffff : UInt64).toNat = 2 ^ 63 - 1 from rfl, show (0x7ff0000000000000 : UInt64).toNat = 9218868437227405312 from rfl, Nat.and_two_pow_sub_one_eq_mod]
  unfold FP.Core.assemble
  rw [fl_tails, fl_exps]
  have h1 : (s.toNat * 2048 + E) * 4503599627370496 + T = s.toNat * 9223372036854775808 + (E * 4503599627370496 + T) := by omega
  rw [h1, show (2 : Nat) ^ 63 = 9223372036854775808 from rfl, Nat.mul_add_mod_of_lt (by omega)]
  by_cases c : E = 2047
  · have := hN c; omega
  · omega
theorem fl_num {n : Nat} (h : flF n) : FP.Core.decode FP.Core.b64 (UInt64.ofNat n).toNat ≠ .nan := by
  obtain ⟨s, E, T, rfl, hE, hT, hN⟩ := h
  rw [fl_nat s hE hT, fl_dec s E T hE hT]
  split
  · next c => rw [if_pos (hN c)]; exact fun z => nomatch z
  · split <;> exact fun z => nomatch z
/-- a whole number below 2^52 as a double -/
theorem fl_l2d {i : Int} (h1 : -4503599627370496 < i) (h2 : i < 4503599627370496) : ∃ s c q, FP.Core.decode FP.Core.b64 (FP.l2d (LI i)).toNat = .fin s c q ∧ (i ≠ 0 → c ≠ 0) := by
  have e0 : FP.l2d (LI i) = UInt64.ofNat (FP.Core.encode FP.Core.b64 (FP.Core.roundRatio FP.Core.b64 (decide (i < 0)) i.natAbs 1 0)) := by
    show UInt64.ofNat (FP.Core.fromInt FP.Core.b64 (LI i).toInt) = _
    rw [LI_T ⟨by omega, by omega⟩]
    rfl
  rw [e0]
  unfold FP.Core.roundRatio
  by_cases c0 : i.natAbs = 0
  · rw [if_pos c0, fl_qmin]
    refine ⟨decide (i < 0), 0, -1074, ?_, fun z => absurd c0 (by omega)⟩
    rw [show FP.Core.encode FP.Core.b64 (.fin (decide (i < 0)) 0 (-1074)) = FP.Core.assemble FP.Core.b64 (decide (i < 0)) 0 0 from rfl, fl_nat _ (by decide) (by decide), fl_dec _ _ _ (by decide) (by decide)]
    rfl
  · rw [if_neg c0]
    have hl : i.natAbs.log2 ≤ 51 := by
      have : i.natAbs.log2 < 52 := (Nat.log2_lt c0).mpr (by omega)
      omega
    have hlo : 2 ^ i.natAbs.log2 ≤ i.natAbs := Nat.log2_self_le c0
    have hhi : i.natAbs < 2 ^ (i.natAbs.log2 + 1) := Nat.lt_log2_self
    generalize hn : i.natAbs = n at *
    generalize hk : n.log2 = k at *
    have hlead : FP.Core.leading n 1 = (k : Int) := by
      unfold FP.Core.leading
      rw [hk]
      simp only [show Nat.log2 1 = 0 by decide +kernel]
      rw [if_pos]
      · omega
      · rw [show ((k : Int) - ((0 : Nat) : Int)).toNat = k by omega, show (-((k : Int) - ((0 : Nat) : Int))).toNat = 0 by omega]
        omega
    have hq : FP.Core.quantum FP.Core.b64 n 1 0 = (k : Int) - 52 := by
      unfold FP.Core.quantum
      rw [hlead, fl_qmin, show ((FP.Core.b64.p : Nat) : Int) = 53 from rfl]
      omega
    have hlo2 : 4503599627370496 ≤ n * 2 ^ (52 - k) := by
      have := Nat.mul_le_mul_right (2 ^ (52 - k)) hlo
      rw [← Nat.pow_add, show k + (52 - k) = 52 by omega] at this
      exact this
    have hhi2 : n * 2 ^ (52 - k) < 9007199254740992 := by
      have := Nat.mul_lt_mul_of_pos_right hhi (Nat.two_pow_pos (52 - k))
      rw [← Nat.pow_add, show k + 1 + (52 - k) = 53 by omega] at this
      exact this
    unfold FP.Core.roundAt FP.Core.settle
    rw [hq]
    unfold FP.Core.unitsNum FP.Core.unitsDen
    rw [show ((0 : Int) - ((k : Int) - 52)).toNat = 52 - k by omega, show ((k : Int) - 52 - 0).toNat = 0 by omega]
    have hne : FP.Core.nearest (n * 2 ^ (52 - k)) (1 * 2 ^ 0) = n * 2 ^ (52 - k) := by
      unfold FP.Core.nearest
      rw [show 1 * 2 ^ 0 = 1 from rfl, Nat.mod_one, if_pos (by decide), Nat.div_one]
    rw [hne, fl_two, if_pos hhi2]
    unfold FP.Core.bound
    rw [fl_qmax, if_pos (by omega)]
    unfold FP.Core.encode
    rw [fl_tails, fl_qmin]
    simp only [if_neg (show ¬ n * 2 ^ (52 - k) < 4503599627370496 by omega)]
    rw [fl_nat _ (by omega) (by omega), fl_dec _ _ _ (by omega) (by omega), if_neg (by omega), if_neg (by omega)]
    exact ⟨_, _, _, rfl, fun _ => by omega⟩
theorem fl_ddiv {a b : Int} (ha : -4503599627370496 < a ∧ a < 4503599627370496) (hb : -4503599627370496 < b ∧ b < 4503599627370496) (h0 : b ≠ 0) : ∃ n, FP.ddiv (FP.l2d (LI a)) (FP.l2d (LI b)) = UInt64.ofNat n ∧ flF n := by
  obtain ⟨s1, c1, q1, e1, -⟩ := fl_l2d ha.1 ha.2
  obtain ⟨s2, c2, q2, e2, hc⟩ := fl_l2d hb.1 hb.2
  refine ⟨FP.Core.encode FP.Core.b64 (FP.Core.quotient FP.Core.b64 (FP.Core.decode FP.Core.b64 (FP.l2d (LI a)).toNat) (FP.Core.decode FP.Core.b64 (FP.l2d (LI b)).toNat)), rfl, ?_⟩
  rw [e1, e2]
  unfold FP.Core.quotient
  simp only [if_neg (hc h0)]
  exact fl_ratio _ _ _ _
/-- two like doubles that are no NaN compare as equal -/
theorem fl_cmp {n : Nat} (h : flF n) : FP.dcmp (UInt64.ofNat n) (UInt64.ofNat n) = some .eq := by
  have h1 := fl_num h
  show FP.Core.order _ _ = _
  generalize FP.Core.decode FP.Core.b64 (UInt64.ofNat n).toNat = x at h1 ⊢
  cases x with
  | nan => exact absurd rfl h1
  | inf s => unfold FP.Core.order; simp
  | fin s c q => unfold FP.Core.order; simp
def flOK (r : UInt32) : Bool := decide (r &&& 0x7fffffff ≤ 0x7f800000) && decide (FP.f2d r &&& 0x7fffffffffffffff ≤ 0x7ff0000000000000) && decide (FP.dcmp (FP.f2d r) (FP.f2d r) = some .eq)
theorem fl_all : ((List.range 28).all fun a => (List.range 28).all fun b => b == 0 || flOK (FP.fdiv (FP.i2f (nI a)) (FP.i2f (nI b)))) = true := by decide +kernel
theorem fl_small {a b : Nat} (ha : a < 28) (hb : b < 28) (h0 : b ≠ 0) : vf_n32 (FP.fdiv (FP.i2f (nI a)) (FP.i2f (nI b))) ∧ vf_n64 (FP.f2d (FP.fdiv (FP.i2f (nI a)) (FP.i2f (nI b)))) ∧ FP.dcmp (FP.f2d (FP.fdiv (FP.i2f (nI a)) (FP.i2f (nI b)))) (FP.f2d (FP.fdiv (FP.i2f (nI a)) (FP.i2f (nI b)))) = some .eq := by
  have h1 := List.all_eq_true.mp (List.all_eq_true.mp fl_all a (List.mem_range.mpr ha)) b (List.mem_range.mpr hb)
  rw [Bool.or_eq_true] at h1
  have h2 := h1.resolve_left (by simpa using h0)
  unfold flOK at h2
  rw [Bool.and_eq_true, Bool.and_eq_true] at h2
  have g1 := of_decide_eq_true h2.1.1
  have g2 := of_decide_eq_true h2.1.2
  exact ⟨g1, g2, of_decide_eq_true h2.2⟩
end Floats
