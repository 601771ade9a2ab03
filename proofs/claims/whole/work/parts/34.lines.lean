/-! lines and their amounts, with bounds -/
section Lines
/-- a line: price, digits, count, rate, what is kept as told -/
abbrev sL := Int32 × Nat × Int32 × Int32 × Int64
abbrev sL.p (l : sL) : Int32 := l.1
abbrev sL.g (l : sL) : Nat := l.2.1
abbrev sL.c (l : sL) : Int32 := l.2.2.1
abbrev sL.r (l : sL) : Int32 := l.2.2.2.1
abbrev sL.t (l : sL) : Int64 := l.2.2.2.2
def sL.sz (l : sL) : Int := l.p.toInt * 10 ^ (4 - l.g)
def sL.ex (l : sL) : Int := l.sz * l.c.toInt * (10000 + l.r.toInt)
def sL.ok (l : sL) : Prop := (-99999 ≤ l.p.toInt ∧ l.p.toInt ≤ 99999) ∧ l.g ≤ 4 ∧ (-99 ≤ l.c.toInt ∧ l.c.toInt ≤ 99) ∧ -5000 ≤ l.r.toInt ∧ l.r.toInt ≤ 9999
theorem mul_bd {x y A B : Int} (h1 : -A ≤ x) (h2 : x ≤ A) (h3 : -B ≤ y) (h4 : y ≤ B) : -(A * B) ≤ x * y ∧ x * y ≤ A * B := by
  have h := Nat.mul_le_mul (show x.natAbs ≤ A.natAbs by omega) (show y.natAbs ≤ B.natAbs by omega)
  rw [← Int.natAbs_mul, ← Int.natAbs_mul] at h
  have : 0 ≤ A * B := Int.mul_nonneg (by omega) (by omega)
  omega
theorem ten_bd : ∀ k : Nat, k ≤ 4 → (1 : Int) ≤ 10 ^ k ∧ (10 : Int) ^ k ≤ 10000 := by decide
theorem sz_bd {l : sL} (h : l.ok) : -1000000000 ≤ l.sz ∧ l.sz ≤ 1000000000 := by
  have h1 := ten_bd (4 - l.g) (by omega)
  have h2 := mul_bd (A := 99999) (B := 10000) h.1.1 h.1.2 (by omega) h1.2
  unfold sL.sz
  omega
theorem ex_bd {l : sL} (h : l.ok) : -2000000000000000 ≤ l.ex ∧ l.ex ≤ 2000000000000000 := by
  obtain ⟨-, -, ⟨c1, c2⟩, r1, r2⟩ := id h
  have h1 := sz_bd h
  have h2 := mul_bd h1.1 h1.2 c1 c2
  have h3 := mul_bd (B := 19999) h2.1 h2.2 (y := 10000 + l.r.toInt) (by omega) (by omega)
  unfold sL.ex
  omega
theorem least_bd : ∀ k : Nat, k ≤ 3 → (100000 : Int) ≤ 10 ^ (8 - k) ∧ (10 : Int) ^ (8 - k) ≤ 100000000 := by decide
theorem sum_bd {e : Nat → Int} {n : Nat} (hn : n ≤ 10) (h : ∀ i, i < n → -2000000000000000 ≤ e i ∧ e i ≤ 2000000000000000) : -20000000000000000 ≤ sumTo e n ∧ sumTo e n ≤ 20000000000000000 := by
  have := sumTo_abs h
  omega
theorem LI_0 : LI 0 = 0 := rfl
theorem ofI_nat (n : Nat) : Int32.ofInt (n : Int) = nI n := rfl
theorem LI_toI (z : Int) : (LI z).toInt32 = Int32.ofInt z := Int64.toInt32_ofInt
end Lines
