/-! putting in order, one line after the other -/
section Order
theorem perm_surj {f : Nat → Nat} {n : Nat} (hf : ∀ i, i < n → f i < n) (h : ∀ i, i < n → ∀ k, k < n → f i = f k → i = k) {p : Nat} (hp : p < n) : ∃ k, k < n ∧ f k = p := by
  by_cases c : ∃ k, k < n ∧ f k = p
  · exact c
  · have h1 := cnt_perm hf h (r := p) (by omega)
    have h2 := cnt_perm hf h (r := p + 1) (by omega)
    have h3 : cntTo (fun i => f i < p + 1) n = cntTo (fun i => f i < p) n := cntTo_congr fun i hi => by
      have : f i ≠ p := fun z => c ⟨i, hi, z⟩
      omega
    omega
abbrev befP (e : Nat → Int) (i k : Nat) : Prop := e k < e i ∨ (e k = e i ∧ k < i)
theorem bf_irr (e : Nat → Int) (i : Nat) : ¬ befP e i i := by unfold befP; omega
theorem bf_tr (e : Nat → Int) (i k j : Nat) : befP e i k → befP e k j → befP e i j := by unfold befP; omega
theorem bf_tot (e : Nat → Int) (i k : Nat) (h : i ≠ k) : befP e i k ∨ befP e k i := by unfold befP; omega
theorem order_lt' (e : Nat → Int) {n i : Nat} (h : i < n) : orderZ e n i < n := rk_lt (A := befP e) (bf_irr e) h
theorem order_inj (e : Nat → Int) {n : Nat} : ∀ i, i < n → ∀ k, k < n → orderZ e n i = orderZ e n k → i = k := rk_inj (A := befP e) (bf_irr e) (bf_tr e) (bf_tot e)
/-- the place of the line i among the first i, behind its like -/
def plcZ (e : Nat → Int) (i : Nat) : Nat := cntTo (fun k => e k ≤ e i) i
theorem plc_le (e : Nat → Int) (i : Nat) : plcZ e i ≤ i := cntTo_le
theorem order_self (e : Nat → Int) (i : Nat) : orderZ e (i + 1) i = plcZ e i := by
  unfold orderZ plcZ
  rw [cntTo, if_neg (bf_irr e i), Nat.add_zero]
  exact cntTo_congr fun k hk => by omega
theorem order_step (e : Nat → Int) {i k : Nat} (hk : k < i) : orderZ e (i + 1) k = orderZ e i k + if e i < e k then 1 else 0 := by
  unfold orderZ
  rw [cntTo]
  congr 1
  by_cases c : e i < e k
  · rw [if_pos c, if_pos (Or.inl c)]
  · rw [if_neg c, if_neg (by omega)]
theorem order_plc (e : Nat → Int) {i k : Nat} (hk : k < i) : e i < e k ↔ plcZ e i ≤ orderZ e i k := by
  constructor
  · intro h
    exact cnt_mono fun j _ hj => by omega
  · intro h
    refine Int.not_le.mp fun c => ?_
    have : orderZ e i k < plcZ e i := cnt_lt (fun j _ hj => by omega) ⟨k, hk, bf_irr e k, c⟩
    omega
/-- where the line k stands after the first i have been put in order -/
def posZ (e : Nat → Int) (i k : Nat) : Nat := if k < i then orderZ e i k else k
theorem pos_lt (e : Nat → Int) {i k n : Nat} (hi : i ≤ n) (hk : k < n) : posZ e i k < n := by
  unfold posZ
  split
  · have := order_lt' e (n := i) (i := k) (by omega); omega
  · exact hk
/-- taking the line from i and putting it in at t -/
def mvP (i t p : Nat) : Nat := if p < t then p else if p = t then i else if p ≤ i then p - 1 else p
theorem mv_pos (e : Nat → Int) {i k : Nat} : mvP i (plcZ e i) (posZ e (i + 1) k) = posZ e i k := by
  have hp := plc_le e i
  unfold posZ
  by_cases c : k < i
  · rw [if_pos (by omega), if_pos c, order_step e c]
    have h1 := order_plc e c
    have h2 := order_lt' e c
    unfold mvP
    by_cases c2 : e i < e k
    · have := h1.mp c2
      rw [if_pos c2, if_neg (by omega), if_neg (by omega), if_pos (by omega)]
      omega
    · have : ¬ plcZ e i ≤ orderZ e i k := fun z => c2 (h1.mpr z)
      rw [if_neg c2, if_pos (by omega)]
      omega
  · rw [if_neg c]
    by_cases c2 : k = i
    · subst c2
      rw [if_pos (by omega), order_self, mvP, if_neg (by omega), if_pos rfl]
    · rw [if_neg (by omega), mvP, if_neg (by omega), if_neg (by omega), if_neg (by omega)]
theorem pos_surj (e : Nat → Int) {i n p : Nat} (hi : i ≤ n) (hp : p < n) : ∃ k, k < n ∧ posZ e i k = p ∧ (p < i → k < i) := by
  by_cases c : p < i
  · obtain ⟨k, hk, he⟩ := perm_surj (f := orderZ e i) (fun j hj => order_lt' e hj) (order_inj e) c
    exact ⟨k, by omega, by rw [posZ, if_pos hk, he], fun _ => hk⟩
  · exact ⟨p, hp, by rw [posZ, if_neg c], fun z => absurd z c⟩
theorem mv_get {α : Type} {xs : List α} {i t p : Nat} (hi : i < xs.length) (ht : t ≤ i) : ((xs.eraseIdx i).insertIdx t xs[i])[p]? = xs[mvP i t p]? := by
  have hl : (xs.eraseIdx i).length = xs.length - 1 := List.length_eraseIdx_of_lt hi
  unfold mvP
  by_cases c1 : p < t
  · rw [if_pos c1, List.getElem?_insertIdx_of_lt c1, List.getElem?_eraseIdx_of_lt (by omega)]
  · rw [if_neg c1]
    by_cases c2 : p = t
    · subst c2
      rw [if_pos rfl, List.getElem?_insertIdx_self, if_pos (by omega)]
      simp
    · rw [if_neg c2, List.getElem?_insertIdx_of_gt (by omega)]
      by_cases c3 : p ≤ i
      · rw [if_pos c3, List.getElem?_eraseIdx_of_lt (by omega)]
      · rw [if_neg c3, List.getElem?_eraseIdx_of_ge (by omega)]
        congr 1
        omega
end Order
