/-! ranks are a counting out; what isSound asks holds -/
section Sound
theorem cnt_mono {P Q : Nat → Prop} [DecidablePred P] [DecidablePred Q] : ∀ {n : Nat}, (∀ i, i < n → P i → Q i) → cntTo P n ≤ cntTo Q n
  | 0, _ => Nat.le_refl _
  | n + 1, h => by
    have h1 := cnt_mono (n := n) fun i hi => h i (by omega)
    have h2 := h n (by omega)
    rw [cntTo, cntTo]
    by_cases c : P n
    · rw [if_pos c, if_pos (h2 c)]; omega
    · rw [if_neg c]; split <;> omega
theorem cnt_lt {P Q : Nat → Prop} [DecidablePred P] [DecidablePred Q] : ∀ {n : Nat}, (∀ i, i < n → P i → Q i) → (∃ k, k < n ∧ ¬ P k ∧ Q k) → cntTo P n < cntTo Q n
  | 0, _, ⟨k, hk, _⟩ => absurd hk (Nat.not_lt_zero _)
  | n + 1, h, ⟨k, hk, h1, h2⟩ => by
    rw [cntTo, cntTo]
    have hm := cnt_mono (n := n) fun i hi => h i (by omega)
    by_cases e : k = n
    · subst e
      rw [if_neg h1, if_pos h2]; omega
    · have := cnt_lt (n := n) (fun i hi => h i (by omega)) ⟨k, by omega, h1, h2⟩
      have h3 := h n (by omega)
      by_cases c : P n
      · rw [if_pos c, if_pos (h3 c)]; omega
      · rw [if_neg c]; split <;> omega
theorem cnt_none {P : Nat → Prop} [DecidablePred P] : ∀ {n : Nat}, (∀ i, i < n → ¬ P i) → cntTo P n = 0
  | 0, _ => rfl
  | n + 1, h => by rw [cntTo, if_neg (h n (by omega)), cnt_none fun i hi => h i (by omega)]
theorem cnt_all {P : Nat → Prop} [DecidablePred P] : ∀ {n : Nat}, (∀ i, i < n → P i) → cntTo P n = n
  | 0, _ => rfl
  | n + 1, h => by rw [cntTo, if_pos (h n (by omega)), cnt_all fun i hi => h i (by omega)]
theorem cnt_one {f : Nat → Nat} {r : Nat} : ∀ {n : Nat}, (∀ i, i < n → ∀ k, k < n → f i = f k → i = k) → cntTo (fun i => f i = r) n ≤ 1
  | 0, _ => Nat.zero_le _
  | n + 1, h => by
    rw [cntTo]
    by_cases c : f n = r
    · rw [if_pos c, cnt_none fun i hi z => ?_]
      · omega
      · have := h i (by omega) n (by omega) (z.trans c.symm)
        omega
    · rw [if_neg c]
      have := cnt_one (r := r) (n := n) fun i hi k hk => h i (by omega) k (by omega)
      omega
theorem cnt_or {P Q : Nat → Prop} [DecidablePred P] [DecidablePred Q] : ∀ {n : Nat}, cntTo (fun i => P i ∨ Q i) n ≤ cntTo P n + cntTo Q n
  | 0 => Nat.le_refl _
  | n + 1 => by
    have := cnt_or (P := P) (Q := Q) (n := n)
    rw [cntTo, cntTo, cntTo]
    by_cases c : P n
    · rw [if_pos c, if_pos (Or.inl c)]; omega
    · rw [if_neg c]
      by_cases c2 : Q n
      · rw [if_pos c2, if_pos (Or.inr c2)]; omega
      · rw [if_neg c2, if_neg (fun z => z.elim c c2)]; omega
theorem cnt_step {f : Nat → Nat} {n : Nat} (h : ∀ i, i < n → ∀ k, k < n → f i = f k → i = k) (r : Nat) : cntTo (fun i => f i < r + 1) n ≤ cntTo (fun i => f i < r) n + 1 := by
  have h1 : cntTo (fun i => f i < r + 1) n = cntTo (fun i => f i < r ∨ f i = r) n := cntTo_congr fun i _ => by omega
  have h2 := cnt_or (P := fun i => f i < r) (Q := fun i => f i = r) (n := n)
  have h3 := cnt_one (r := r) h
  omega
/-- an injective counting out of n things reaches each r of the first n -/
theorem cnt_perm {f : Nat → Nat} {n : Nat} (hf : ∀ i, i < n → f i < n) (h : ∀ i, i < n → ∀ k, k < n → f i = f k → i = k) {r : Nat} (hr : r ≤ n) : cntTo (fun i => f i < r) n = r := by
  have up : ∀ r, cntTo (fun i => f i < r) n ≤ r := by
    intro r
    induction r with
    | zero => rw [cnt_none fun i _ => Nat.not_lt_zero _]; exact Nat.le_refl _
    | succ r ih => have := cnt_step h r; omega
  have dn : ∀ k, cntTo (fun i => f i < r + k) n ≤ cntTo (fun i => f i < r) n + k := by
    intro k
    induction k with
    | zero => exact Nat.le_refl _
    | succ k ih => have := cnt_step h (r + k); rw [← Nat.add_assoc]; omega
  have h1 := up r
  have h2 := dn (n - r)
  rw [show r + (n - r) = n by omega, cnt_all hf] at h2
  omega
/-! a strict order on the first n, and its ranks -/
theorem rk_lt {A : Nat → Nat → Prop} [∀ i, DecidablePred (A i)] {n : Nat} (hi : ∀ i, ¬ A i i) {i : Nat} (h : i < n) : cntTo (A i) n < n := by
  have h1 : cntTo (A i) n < cntTo (fun _ => True) n := cnt_lt (fun _ _ _ => trivial) ⟨i, h, hi i, trivial⟩
  rw [cnt_all fun _ _ => trivial] at h1
  exact h1
theorem rk_mono {A : Nat → Nat → Prop} [∀ i, DecidablePred (A i)] {n : Nat} (hi : ∀ i, ¬ A i i) (ht : ∀ i k j, A i k → A k j → A i j) {i k : Nat} (hk : k < n) (h : A i k) : cntTo (A k) n < cntTo (A i) n :=
  cnt_lt (fun j _ hj => ht i k j h hj) ⟨k, hk, hi k, h⟩
theorem rk_inj {A : Nat → Nat → Prop} [∀ i, DecidablePred (A i)] {n : Nat} (hi : ∀ i, ¬ A i i) (ht : ∀ i k j, A i k → A k j → A i j) (hl : ∀ i k, i ≠ k → A i k ∨ A k i) : ∀ i, i < n → ∀ k, k < n → cntTo (A i) n = cntTo (A k) n → i = k := by
  intro i h1 k h2 h3
  by_cases c : i = k
  · exact c
  · rcases hl i k c with z | z
    · have := rk_mono (n := n) hi ht h2 z; omega
    · have := rk_mono (n := n) hi ht h1 z; omega
theorem ah_irr (e : Nat → Int) (L : Int) (i : Nat) : ¬ aheadP e L i i := by unfold aheadP; omega
theorem ah_tr (e : Nat → Int) (L : Int) (i k j : Nat) : aheadP e L i k → aheadP e L k j → aheadP e L i j := by unfold aheadP; omega
theorem ah_tot (e : Nat → Int) (L : Int) (i k : Nat) (h : i ≠ k) : aheadP e L i k ∨ aheadP e L k i := by unfold aheadP; omega
theorem rank_lt (e : Nat → Int) {n : Nat} (L : Int) {i : Nat} (h : i < n) : rankZ e n L i < n := rk_lt (A := aheadP e L) (ah_irr e L) h
theorem rank_cnt (e : Nat → Int) {n : Nat} (L : Int) {r : Nat} (hr : r ≤ n) : cntTo (fun i => rankZ e n L i < r) n = r := cnt_perm (f := rankZ e n L) (fun i h => rank_lt e L h) (rk_inj (A := aheadP e L) (ah_irr e L) (ah_tr e L) (ah_tot e L)) hr
/-! ### the sums -/
theorem sum_byRests (e : Nat → Int) (n : Nat) {L : Int} (hL : 0 < L) (w : Nat) : sumTo (byRestsZ e n L w) n = totalZ e n L w := by
  have h0 := raised_nn e n hL w
  have h1 := raised_le e n hL w
  have h2 := many_le e n L
  obtain ⟨r, hr⟩ : ∃ r : Nat, raisedZ e n L w = r := ⟨(raisedZ e n L w).toNat, by omega⟩
  have h3 := rank_cnt e (n := n) L (r := r) (by omega)
  have h4 : sumTo (byRestsZ e n L w) n = sumTo (floorZ e L) n + sumTo (fun i => if (rankZ e n L i : Int) < raisedZ e n L w then 1 else 0) n := sumTo_add
  have h5 : sumTo (fun i => if (rankZ e n L i : Int) < raisedZ e n L w then (1 : Int) else 0) n = (cntTo (fun i => rankZ e n L i < r) n : Int) := by
    rw [cntTo_eq]
    refine sumTo_congr fun i _ => ?_
    rw [hr]
    by_cases c : rankZ e n L i < r
    · rw [if_pos c, if_pos (by omega)]
    · rw [if_neg c, if_neg (by omega)]
  rw [h4, h5, h3, ← hr, raisedZ]
  omega
theorem cut_0 (L : Int) (w : Nat) : cutZ 0 L w = 0 := by
  rw [cut_div (by simp)]
  simp
theorem sum_carried (e : Nat → Int) (L : Int) (w : Nat) : ∀ n : Nat, sumTo (carriedZ e L w) n = totalZ e n L w
  | 0 => by rw [totalZ, sumTo, sumTo, cut_0]
  | n + 1 => by
    rw [sumTo, sum_carried e L w n, carriedZ, totalZ, totalZ]
    omega
/-! ### near -/
theorem near_floor {e : Nat → Int} {L : Int} (i : Nat) : e i - floorZ e L i * L = restZ e L i := by
  have := Int.ediv_mul_add_emod (e i) L
  unfold floorZ restZ
  omega
theorem near_byRests (e : Nat → Int) {n : Nat} {L : Int} (hL : 0 < L) (w : Nat) (i : Nat) : absZ (e i - byRestsZ e n L w i * L) < if restZ e L i = 0 then 1 else L := by
  have h1 := near_floor (e := e) (L := L) i
  have h2 := rest_nn (e := e) hL i
  have h3 := rest_lt (e := e) hL i
  unfold byRestsZ absZ
  by_cases c : (rankZ e n L i : Int) < raisedZ e n L w
  · rw [if_pos c, Int.add_mul]
    have h4 : restZ e L i ≠ 0 := by
      intro z
      have h5 : manyZ e n L ≤ rankZ e n L i := by
        unfold manyZ rankZ
        refine cnt_mono fun k _ hk => ?_
        have := rest_nn (e := e) hL k
        unfold aheadP
        omega
      have h6 := raised_le e n hL w
      omega
    rw [if_neg h4]
    split <;> omega
  · rw [if_neg c, Int.add_zero, h1]
    split <;> split <;> omega
/-- how far a cut may be off -/
def limZ (L : Int) (w : Nat) : Int := if w = 2 ∨ w = 3 then L else if w = 4 ∨ w = 5 ∨ w = 6 then L + 1 else 2 * L
theorem near_carried (e : Nat → Int) {L : Int} (hL : 0 < L) {w : Nat} (hw : w ≤ 6) (i : Nat) : absZ (e i - carriedZ e L w i * L) < limZ L w := by
  have h1 : sumTo e (i + 1) = sumTo e i + e i := rfl
  have E : ∀ x : Int, (w = 2 → 0 ≤ cutZ x L w * L - x ∧ cutZ x L w * L - x < L) ∧ (w = 3 → cutZ x L w * L - x ≤ 0 ∧ -L < cutZ x L w * L - x) ∧ (w = 4 ∨ w = 5 ∨ w = 6 → 2 * (cutZ x L w * L - x) ≤ L ∧ -L ≤ 2 * (cutZ x L w * L - x)) ∧ (cutZ x L w * L - x < L ∧ -L < cutZ x L w * L - x) := by
    intro x
    have h2 := Int.ediv_mul_add_emod x L
    have h3 := Int.emod_nonneg x (b := L) (by omega)
    have h4 := Int.emod_lt_of_pos x hL
    unfold cutZ
    by_cases c : x % L ≠ 0 ∧ qUp x (x / L) (2 * (x % L) - L) w
    · rw [if_pos c, Int.add_mul]
      obtain ⟨c1, c2⟩ := c
      unfold qUp at c2
      refine ⟨fun z => ?_, fun z => ?_, fun z => ?_, ?_⟩ <;> omega
    · rw [if_neg c]
      have c2 : x % L = 0 ∨ ¬ qUp x (x / L) (2 * (x % L) - L) w := by
        by_cases z : x % L = 0
        · exact Or.inl z
        · exact Or.inr fun q => c ⟨z, q⟩
      unfold qUp at c2
      refine ⟨fun z => ?_, fun z => ?_, fun z => ?_, ?_⟩ <;> omega
  have h5 := E (sumTo e (i + 1))
  have h6 := E (sumTo e i)
  have h7 : carriedZ e L w i * L = cutZ (sumTo e (i + 1)) L w * L - cutZ (sumTo e i) L w * L := by rw [carriedZ, Int.sub_mul]
  unfold absZ limZ
  rw [h7]
  generalize cutZ (sumTo e (i + 1)) L w * L = X at *
  generalize cutZ (sumTo e i) L w * L = Y at *
  obtain ⟨a1, a2, a3, a4⟩ := h5
  obtain ⟨b1, b2, b3, b4⟩ := h6
  by_cases w2 : w = 2
  · have := a1 w2; have := b1 w2
    rw [if_pos (Or.inl w2)]
    split <;> omega
  · by_cases w3 : w = 3
    · have := a2 w3; have := b2 w3
      rw [if_pos (Or.inr w3)]
      split <;> omega
    · rw [if_neg (show ¬ (w = 2 ∨ w = 3) by omega)]
      by_cases w4 : w = 4 ∨ w = 5 ∨ w = 6
      · have := a3 w4; have := b3 w4
        rw [if_pos w4]
        split <;> omega
      · rw [if_neg w4]
        split
        · omega
        · omega
/-! ### by the greatest rests a bill is the least off of all that add up -/
theorem off_one {L r t s s' : Int} (hL : 0 < L) (h0 : 0 ≤ r) (h1 : r < L) (ht0 : 0 ≤ t) (htL : t ≤ L) (hs : (s' = 0 ∧ r ≤ t) ∨ (s' = 1 ∧ t ≤ r)) : absZ (r - s' * L) + (L - 2 * t) * (s - s') ≤ absZ (r - s * L) := by
  have hA : ∀ k : Int, 0 ≤ k → absZ (r - (k + 1) * L) = k * L + L - r := by
    intro k hk
    have := Int.mul_nonneg hk (Int.le_of_lt hL)
    unfold absZ
    rw [Int.add_mul]
    split <;> omega
  have hB : ∀ k : Int, 0 ≤ k → absZ (r - (-k) * L) = k * L + r := by
    intro k hk
    have := Int.mul_nonneg hk (Int.le_of_lt hL)
    unfold absZ
    rw [Int.neg_mul]
    split <;> omega
  rcases Int.lt_or_le 0 s with c | c
  · obtain ⟨k, rfl⟩ : ∃ k, s = k + 1 := ⟨s - 1, by omega⟩
    have hk : 0 ≤ k := by omega
    rw [hA k hk]
    have m1 := Int.mul_nonneg hk ht0
    rcases hs with ⟨rfl, hr⟩ | ⟨rfl, hr⟩
    · rw [show r - 0 * L = r - (-0) * L by simp, hB 0 (by omega), Int.sub_mul, show k + 1 - 0 = k + 1 by omega, Int.mul_add, Int.mul_assoc, Int.mul_add, Int.mul_comm L k, Int.mul_comm t k]
      omega
    · have := hA 0 (by omega)
      rw [Int.zero_add] at this
      rw [this, show k + 1 - 1 = k by omega, Int.sub_mul, Int.mul_assoc, Int.mul_comm L k, Int.mul_comm t k]
      omega
  · obtain ⟨k, rfl⟩ : ∃ k, s = -k := ⟨-s, by omega⟩
    have hk : 0 ≤ k := by omega
    rw [hB k hk]
    have m1 : k * t ≤ k * L := Int.mul_le_mul_of_nonneg_left htL hk
    rcases hs with ⟨rfl, hr⟩ | ⟨rfl, hr⟩
    · rw [show r - 0 * L = r - (-0) * L by simp, hB 0 (by omega), show -k - 0 = -k by omega, Int.mul_neg, Int.sub_mul, Int.mul_assoc, Int.mul_comm L k, Int.mul_comm t k]
      omega
    · have := hA 0 (by omega)
      rw [Int.zero_add] at this
      rw [this, show -k - 1 = -(k + 1) by omega, Int.mul_neg, Int.sub_mul, Int.mul_add, Int.mul_assoc, Int.mul_add, Int.mul_comm L k, Int.mul_comm t k]
      omega
theorem max_ex {P : Nat → Prop} [DecidablePred P] (f : Nat → Int) (hf : ∀ i, 0 ≤ f i) : ∀ n : Nat, ∃ t, 0 ≤ t ∧ (∀ i, i < n → P i → f i ≤ t) ∧ (t = 0 ∨ ∃ i, i < n ∧ P i ∧ f i = t)
  | 0 => ⟨0, by omega, fun _ h => absurd h (Nat.not_lt_zero _), Or.inl rfl⟩
  | n + 1 => by
    obtain ⟨t, h0, h1, h2⟩ := max_ex (P := P) f hf n
    by_cases c : P n ∧ t ≤ f n
    · refine ⟨f n, hf n, fun i hi hp => ?_, Or.inr ⟨n, by omega, c.1, rfl⟩⟩
      by_cases z : i = n
      · rw [z]; exact Int.le_refl _
      · have := h1 i (by omega) hp; omega
    · refine ⟨t, h0, fun i hi hp => ?_, h2.imp id fun ⟨i, hi, hp, he⟩ => ⟨i, by omega, hp, he⟩⟩
      by_cases z : i = n
      · subst z
        have : ¬ t ≤ f i := fun q => c ⟨hp, q⟩
        omega
      · exact h1 i (by omega) hp
theorem off_least (e : Nat → Int) (n : Nat) {L : Int} (hL : 0 < L) (w : Nat) (u : Nat → Int) (hu : sumTo u n = totalZ e n L w) : sumTo (fun i => absZ (e i - byRestsZ e n L w i * L)) n ≤ sumTo (fun i => absZ (e i - u i * L)) n := by
  obtain ⟨t, h0, h1, h2⟩ := max_ex (P := fun i => ¬ (rankZ e n L i : Int) < raisedZ e n L w) (restZ e L) (rest_nn hL) n
  have htL : t ≤ L := by
    rcases h2 with rfl | ⟨i, -, -, rfl⟩
    · omega
    · have := rest_lt (e := e) hL i; omega
  have hle : ∀ i, i < n → absZ (e i - byRestsZ e n L w i * L) + (L - 2 * t) * (u i - byRestsZ e n L w i) ≤ absZ (e i - u i * L) := by
    intro i hi
    have hn := near_floor (e := e) (L := L) i
    have hs : ((byRestsZ e n L w i - floorZ e L i) = 0 ∧ restZ e L i ≤ t) ∨ ((byRestsZ e n L w i - floorZ e L i) = 1 ∧ t ≤ restZ e L i) := by
      unfold byRestsZ
      by_cases c : (rankZ e n L i : Int) < raisedZ e n L w
      · rw [if_pos c]
        refine Or.inr ⟨by omega, ?_⟩
        rcases h2 with rfl | ⟨k, hk, hp, rfl⟩
        · exact rest_nn hL i
        · refine Int.not_lt.mp fun z => ?_
          have : rankZ e n L k < rankZ e n L i := rk_mono (A := aheadP e L) (n := n) (ah_irr e L) (ah_tr e L) hk (Or.inl z)
          omega
      · rw [if_neg c]
        exact Or.inl ⟨by omega, h1 i hi c⟩
    have key := off_one (s := u i - floorZ e L i) hL (rest_nn hL i) (rest_lt hL i) h0 htL hs
    rw [show u i - floorZ e L i - (byRestsZ e n L w i - floorZ e L i) = u i - byRestsZ e n L w i by omega, Int.sub_mul (byRestsZ e n L w i) (floorZ e L i) L, Int.sub_mul (u i) (floorZ e L i) L] at key
    rw [show e i - byRestsZ e n L w i * L = restZ e L i - (byRestsZ e n L w i * L - floorZ e L i * L) by omega, show e i - u i * L = restZ e L i - (u i * L - floorZ e L i * L) by omega]
    exact key
  have h3 := sumTo_le hle
  have h4 : sumTo (fun i => (L - 2 * t) * (u i - byRestsZ e n L w i)) n = 0 := by
    have h5 : sumTo (fun i => (L - 2 * t) * (u i - byRestsZ e n L w i)) n = sumTo (fun i => (u i - byRestsZ e n L w i) * (L - 2 * t)) n := sumTo_congr fun i _ => Int.mul_comm _ _
    rw [h5, sumTo_mul, sumTo_sub, hu, sum_byRests e n hL w]
    simp
  rw [sumTo_add, h4] at h3
  omega
theorem off_sound (e : Nat → Int) (n : Nat) {L : Int} (hL : 0 < L) (w : Nat) : offZ e n L w 1 ≤ offZ e n L w 2 := by
  unfold offZ toldZ
  exact off_least e n hL w (carriedZ e L w) (sum_carried e L w n)
end Sound
