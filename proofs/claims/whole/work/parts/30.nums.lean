/-! whole numbers in longs: what is added, cut and compared as the numbers themselves are -/
section Nums
/-- the long of a whole number -/
abbrev LI (z : Int) : Int64 := Int64.ofInt z
/-- so small that sums, doubles and quotients stay within a long -/
def Bg (z : Int) : Prop := -4611686018427387904 ≤ z ∧ z ≤ 4611686018427387904
theorem LI_add (a b : Int) : LI a + LI b = LI (a + b) := (Int64.ofInt_add a b).symm
theorem LI_sub (a b : Int) : LI a - LI b = LI (a - b) := (Int64.ofInt_sub a b).symm
theorem LI_mul (a b : Int) : LI a * LI b = LI (a * b) := (Int64.ofInt_mul a b).symm
theorem LI_neg (a : Int) : -LI a = LI (-a) := (Int64.ofInt_neg a).symm
theorem LI_i (x : Int32) : x.toInt64 = LI x.toInt := (Int64.ofInt_int32ToInt x).symm
theorem LI_T {z : Int} (h : Bg z) : (LI z).toInt = z := Int64.toInt_ofInt_of_le (by have := h.1; omega) (by have := h.2; omega)
theorem LI_lt {a b : Int} (ha : Bg a) (hb : Bg b) : LI a < LI b ↔ a < b := by rw [Int64.lt_iff_toInt_lt, LI_T ha, LI_T hb]
theorem LI_le {a b : Int} (ha : Bg a) (hb : Bg b) : LI a ≤ LI b ↔ a ≤ b := by rw [Int64.le_iff_toInt_le, LI_T ha, LI_T hb]
theorem LI_eq {a b : Int} (ha : Bg a) (hb : Bg b) : LI a = LI b ↔ a = b := by rw [← Int64.toInt_inj, LI_T ha, LI_T hb]
theorem Bg0 : Bg 0 := ⟨by decide, by decide⟩
theorem LI_lt0 {a : Int} (ha : Bg a) : LI a < 0 ↔ a < 0 := LI_lt ha Bg0
theorem LI_gt0 {a : Int} (ha : Bg a) : 0 < LI a ↔ 0 < a := LI_lt Bg0 ha
theorem LI_ge0 {a : Int} (ha : Bg a) : 0 ≤ LI a ↔ 0 ≤ a := LI_le Bg0 ha
theorem LI_le0 {a : Int} (ha : Bg a) : LI a ≤ 0 ↔ a ≤ 0 := LI_le ha Bg0
theorem LI_eq0 {a : Int} (ha : Bg a) : LI a = 0 ↔ a = 0 := LI_eq ha Bg0
theorem LI_div {a b : Int} (ha : Bg a) (hb : Bg b) : LI a / LI b = LI (a.tdiv b) := by
  refine (Int64.ofInt_tdiv ?_ ?_ ?_ ?_).symm
  · have := ha.1; rw [show Int64.minValue.toInt = -9223372036854775808 from by decide]; omega
  · have := ha.2; rw [show Int64.maxValue.toInt = 9223372036854775807 from by decide]; omega
  · have := hb.1; rw [show Int64.minValue.toInt = -9223372036854775808 from by decide]; omega
  · have := hb.2; rw [show Int64.maxValue.toInt = 9223372036854775807 from by decide]; omega
theorem xor_neg (x y : Int64) : x ^^^ y < 0 ↔ (x.toInt < 0 ∧ ¬ y.toInt < 0) ∨ (¬ x.toInt < 0 ∧ y.toInt < 0) := by
  have h : ∀ z : Int64, z < 0 ↔ z.toBitVec.msb = true := by
    intro z
    rw [Int64.lt_iff_toInt_lt, BitVec.msb_eq_toInt]
    simp
  rw [h, Int64.toBitVec_xor, BitVec.msb_xor, BitVec.msb_eq_toInt, BitVec.msb_eq_toInt]
  simp only [Int64.toInt_toBitVec]
  by_cases h1 : x.toInt < 0 <;> by_cases h2 : y.toInt < 0 <;> simp [h1, h2]
theorem Bg_tdiv {a b : Int} (ha : Bg a) (hb : 0 < b) : Bg (a.tdiv b) := by
  have h := Int.tdiv_eq_ediv (a := a) (b := b)
  have h1 : (a / b) * b ≤ a := Int.ediv_mul_le _ (by omega)
  have h2 : a < (a / b + 1) * b := Int.lt_ediv_add_one_mul_self _ hb
  obtain ⟨l, u⟩ := ha
  by_cases c : 0 ≤ a ∨ b ∣ a
  · rw [if_pos c] at h
    rw [h]
    rcases c with c | ⟨k, rfl⟩
    · have h3 : 0 ≤ a / b := Int.ediv_nonneg c (by omega)
      have h4 : a / b ≤ a := Int.ediv_le_self _ c
      exact ⟨by omega, by omega⟩
    · rw [Int.add_zero, Int.mul_ediv_cancel_left _ (by omega)] at *
      constructor
      · by_cases k0 : 0 ≤ k
        · omega
        · have : b * k ≤ 1 * k := Int.mul_le_mul_of_nonpos_right (by omega) (by omega)
          omega
      · by_cases k0 : 0 ≤ k
        · have : 1 * k ≤ b * k := Int.mul_le_mul_of_nonneg_right (by omega) k0
          omega
        · omega
  · rw [if_neg c, Int.sign_eq_one_of_pos hb] at h
    have c0 : a < 0 := by omega
    have h3 : a / b < 0 := Int.ediv_neg_of_neg_of_pos c0 hb
    have h4 : (a / b + 1) * b ≤ (a / b + 1) * 1 := Int.mul_le_mul_of_nonpos_left (by omega) (by omega)
    rw [h]
    exact ⟨by omega, by omega⟩
theorem Bg_ediv {a b : Int} (ha : Bg a) (hb : 0 < b) : Bg (a / b) := by
  obtain ⟨l, u⟩ := ha
  by_cases c : 0 ≤ a
  · have h3 : 0 ≤ a / b := Int.ediv_nonneg c (by omega)
    have h4 : a / b ≤ a := Int.ediv_le_self _ c
    exact ⟨by omega, by omega⟩
  · have h3 : a / b < 0 := Int.ediv_neg_of_neg_of_pos (by omega) hb
    have h1 : a ≤ a / b := by
      rw [Int.le_ediv_iff_mul_le hb]
      have : a * b ≤ a * 1 := Int.mul_le_mul_of_nonpos_left (by omega) (by omega)
      omega
    exact ⟨by omega, by omega⟩
theorem fD_iff {a b : Int} (ha : Bg a) (hb : Bg b) (h0 : 0 < b) : (LI a ^^^ LI b) < 0 ∧ ¬ LI a / LI b * LI b = LI a ↔ ¬ (0 ≤ a ∨ b ∣ a) := by
  rw [LI_div ha hb, LI_mul, xor_neg, LI_T ha, LI_T hb]
  have hbm : Bg (a.tdiv b * b) := by
    have hm : a.tdiv b * b + a.tmod b = a := Int.tdiv_mul_add_tmod a b
    obtain ⟨l, u⟩ := ha
    by_cases c : 0 ≤ a
    · have := Int.tmod_nonneg b c
      have h6 : 0 ≤ a.tdiv b := Int.tdiv_nonneg c (by omega)
      have h7 : 0 ≤ a.tdiv b * b := Int.mul_nonneg h6 (by omega)
      exact ⟨by omega, by omega⟩
    · obtain ⟨k, rfl⟩ : ∃ k, a = -k := ⟨-a, by omega⟩
      have h6 : 0 ≤ k.tdiv b := Int.tdiv_nonneg (by omega) (by omega)
      have h7 : 0 ≤ k.tdiv b * b := Int.mul_nonneg h6 (by omega)
      have h8 := Int.tmod_nonneg b (a := k) (by omega)
      rw [Int.neg_tdiv, Int.neg_mul] at *
      rw [Int.neg_tmod] at hm
      exact ⟨by omega, by omega⟩
  rw [LI_eq hbm ha]
  constructor
  · rintro ⟨z, z2⟩ (c | c)
    · omega
    · exact z2 (Int.tdiv_mul_cancel c)
  · intro c
    exact ⟨Or.inl ⟨by omega, by omega⟩, fun z => c (Or.inr ⟨a.tdiv b, by rw [Int.mul_comm]; exact z.symm⟩)⟩
theorem fD_LI {a b : Int} (ha : Bg a) (hb : Bg b) (h0 : 0 < b) : (if (LI a ^^^ LI b) < 0 ∧ ¬ LI a / LI b * LI b = LI a then LI a / LI b - 1 else LI a / LI b) = LI (a / b) := by
  have hd := Int.tdiv_eq_ediv (a := a) (b := b)
  have hi := fD_iff ha hb h0
  rw [LI_div ha hb] at hi ⊢
  by_cases c : 0 ≤ a ∨ b ∣ a
  · rw [if_pos c] at hd
    rw [if_neg (fun z => hi.mp z c)]
    congr 1; omega
  · rw [if_neg c, Int.sign_eq_one_of_pos h0] at hd
    rw [if_pos (hi.mpr c), show (1 : Int64) = LI 1 from rfl, LI_sub]
    congr 1; omega
theorem LI_rem {a b : Int} (ha : Bg a) (hb : Bg b) : LI a - LI a / LI b * LI b = LI (a.tmod b) := by
  rw [LI_div ha hb, LI_mul, LI_sub, Int.tmod_def, Int.mul_comm b]
theorem fM_LI {a b : Int} (ha : Bg a) (hb : Bg b) (h0 : 0 < b) : (if LI a ^^^ LI b < 0 ∧ ¬ LI a - LI a / LI b * LI b = 0 then LI a - LI a / LI b * LI b + LI b else LI a - LI a / LI b * LI b) = LI (a % b) := by
  have h1 : ∀ x y : Int64, x - y = 0 ↔ y = x := by
    intro x y
    constructor
    · intro z
      have := congrArg (· + y) z
      simpa using this.symm
    · rintro rfl; simp
  have hi := fD_iff ha hb h0
  have he : a % b = a - a / b * b := by have := Int.ediv_mul_add_emod a b; omega
  have hd := Int.tdiv_eq_ediv (a := a) (b := b)
  have ht : a.tmod b = a - a.tdiv b * b := by have := Int.tdiv_mul_add_tmod a b; omega
  rw [LI_rem ha hb]
  have hj : LI a ^^^ LI b < 0 ∧ ¬ LI (a.tmod b) = 0 ↔ ¬ (0 ≤ a ∨ b ∣ a) := by
    rw [← hi, ← LI_rem ha hb, h1]
  by_cases c : 0 ≤ a ∨ b ∣ a
  · rw [if_pos c, Int.add_zero] at hd
    rw [if_neg (fun z => hj.mp z c), ht, he, hd]
  · rw [if_neg c, Int.sign_eq_one_of_pos h0] at hd
    rw [if_pos (hj.mpr c), LI_add, ht, he, hd]
    congr 1
    rw [Int.add_mul]; omega
theorem LI_and1 {a : Int} : LI a &&& 1 = 0 ↔ a % 2 = 0 := by
  rw [← Int64.toBitVec_inj, Int64.toBitVec_and, Int64.toBitVec_ofInt]
  show BitVec.ofInt 64 a &&& 1#64 = 0#64 ↔ _
  rw [BitVec.and_one_eq_setWidth_ofBool_getLsbD]
  have h : (BitVec.ofInt 64 a).getLsbD 0 = decide (a % 2 = 1) := by
    rw [BitVec.getLsbD, BitVec.toNat_ofInt, Nat.testBit_zero]
    congr 1
    apply propext
    omega
  rw [h]
  by_cases c : a % 2 = 1
  · rw [decide_eq_true c]
    simp
    omega
  · rw [decide_eq_false c]
    simp
    omega
/-! ### cutting -/
/-- whether a number that needs a cut goes up: p is twice the rest less the divisor, f the floor -/
abbrev qUp (n f p : Int) (w : Nat) : Prop := (w = 0 ∧ 0 < n) ∨ (w = 1 ∧ n < 0) ∨ w = 2 ∨ (w = 4 ∧ (0 < p ∨ (p = 0 ∧ 0 < n))) ∨ (w = 5 ∧ (0 < p ∨ (p = 0 ∧ n < 0))) ∨ (w = 6 ∧ (0 < p ∨ (p = 0 ∧ f % 2 ≠ 0)))
/-- n over d, cut by the way w -/
def cutZ (n d : Int) (w : Nat) : Int := if n % d ≠ 0 ∧ qUp n (n / d) (2 * (n % d) - d) w then n / d + 1 else n / d
end Nums
