/-! the object of the class in the heap: three bills that share no cell -/
section ClsS
variable {G : gG} {d : Nat}
/-- a bill: places, way, how it was closed, number of lines, the lines -/
abbrev sB := Nat × Nat × Nat × Nat × (Nat → sL)
abbrev sB.pl (B : sB) : Nat := B.1
abbrev sB.wy (B : sB) : Nat := B.2.1
abbrev sB.cl (B : sB) : Nat := B.2.2.1
abbrev sB.n (B : sB) : Nat := B.2.2.2.1
abbrev sB.ls (B : sB) : Nat → sL := B.2.2.2.2
abbrev BvS (G : gG) (h : aH) (b a e : Nat) (xs : List Nat) (B : sB) : Prop := Bv G h b a e xs B.pl B.wy B.cl B.ls ∧ xs.length = B.n
/-- the state with another bill in one place -/
def upS (S : Nat → sB) (i : Nat) (B : sB) : Nat → sB := fun j => if j = i then B else S j
/-- with these addresses -/
def ClsA (G : gG) (h : aH) (x q : Nat) (fb fa fe : Nat → Nat) (fx : Nat → List Nat) (S : Nat → sB) : Prop :=
  h x = some (0, [.ref q]) ∧ h q = some (13, [.ref (fb 0), .ref (fb 1), .ref (fb 2)]) ∧ (∀ i, i < 3 → BvS G h (fb i) (fa i) (fe i) (fx i) (S i)) ∧ ∀ i, i < 3 → ∀ j, j < 3 → i ≠ j → Dj G (fb i) (fa i) (fe i) (fx i) (fb j) (fa j) (fe j) (fx j)
def Cls (G : gG) (h : aH) (x : Nat) (S : Nat → sB) : Prop := ∃ q fb fa fe fx, ClsA G h x q fb fa fe fx S
/-- what a call of the class leaves as it was -/
def kC2 (h h1 : aH) : Prop := ∀ q k v, h q = some (k, v) → k ≠ 1 → k ≠ 2 → k ≠ 4 → k ≠ 14 → h1 q = some (k, v)
theorem kC2.refl (h : aH) : kC2 h h := fun _ _ _ z _ _ _ _ => z
theorem kC2.trans {h h1 h2 : aH} (a : kC2 h h1) (b : kC2 h1 h2) : kC2 h h2 := fun q k v z c1 c2 c3 c4 => b q k v (a q k v z c1 c2 c3 c4) c1 c2 c3 c4
theorem Fr.kC2 {h h1 : aH} {b a e : Nat} {xs : List Nat} {pl wy cl : Nat} {ls : Nat → sL} (hB : Bv G h b a e xs pl wy cl ls) (hF : Fr G h h1 b a e xs) : kC2 h h1 := by
  obtain ⟨⟨vb, kb⟩, ⟨va, ka⟩, -, kx⟩ := hB.kinds
  have hr := hB.2.1.2.2
  intro q k v z c1 c2 c3 c4
  refine (hF.2 q (some_ne z) (kd_ne z kb c1) (kd_ne z ka c3) ?_ (fun w => ?_)).trans z
  · rcases hr with ⟨r1, -, -⟩ | ⟨-, r2⟩
    · by_cases y : q = e
      · exact Or.inr (y.trans r1)
      · exact Or.inl y
    · exact Or.inl (kd_ne z r2 c4)
  · obtain ⟨v2, hv⟩ := kx q w
    rw [z] at hv
    cases hv
    exact c2 rfl
/-- what a bill's change may take for its cells -/
abbrev nwC (h : aH) (e e2 : Nat) (xs ys : List Nat) : Prop := (e2 = e ∨ h e2 = none) ∧ ∀ y ∈ ys, y ∈ xs ∨ h y = none
theorem ClsA.upd {h h1 : aH} {x q : Nat} {fb fa fe : Nat → Nat} {fx : Nat → List Nat} {S : Nat → sB} (hC : ClsA G h x q fb fa fe fx S) {i : Nat} (hi : i < 3) {e2 : Nat} {ys : List Nat} {B : sB} (hF : Fr G h h1 (fb i) (fa i) (fe i) (fx i)) (hB : BvS G h1 (fb i) (fa i) e2 ys B) (hN : nwC h (fe i) e2 (fx i) ys) : Cls G h1 x (upS S i B) := by
  obtain ⟨hx, hq, hb, hD⟩ := hC
  have hk := hF.kC2 (hb i hi).1
  refine ⟨q, fb, fa, fun j => if j = i then e2 else fe j, fun j => if j = i then ys else fx j, hk x _ _ hx (by decide) (by decide) (by decide) (by decide), hk q _ _ hq (by decide) (by decide) (by decide) (by decide), fun j hj => ?_, fun j hj k hkk hne => ?_⟩
  · by_cases c : j = i
    · subst c
      simp only [upS, if_true]
      exact hB
    · simp only [upS, if_neg c]
      exact ⟨(hb i hi).1.keep (hb j hj).1 (hD i hi j hj (Ne.symm c)) hF, (hb j hj).2⟩
  · obtain ⟨d1, d2, d3, d4⟩ := hD j hj k hkk hne
    refine ⟨d1, d2, ?_, ?_⟩
    · dsimp only
      by_cases c : j = i
      · subst c
        rw [if_pos rfl, if_neg (Ne.symm hne)]
        rcases hN.1 with z | z
        · rw [z]; exact d3
        · obtain ⟨-, -, ⟨k9, v9, ke, -⟩, -⟩ := (hb k hkk).1.kinds
          exact Or.inl (fr_ne ke z)
      · rw [if_neg c]
        by_cases c2 : k = i
        · subst c2
          rw [if_pos rfl]
          rcases hN.1 with z | z
          · rw [z]; exact d3
          · obtain ⟨-, -, ⟨k9, v9, ke, -⟩, -⟩ := (hb j hj).1.kinds
            exact Or.inl (fr_ne ke z).symm
        · rw [if_neg c2]; exact d3
    · dsimp only
      by_cases c : j = i
      · subst c
        rw [if_pos rfl, if_neg (Ne.symm hne)]
        intro y hy z
        rcases hN.2 y z with w | w
        · exact d4 y hy w
        · obtain ⟨v, hv⟩ := (hb k hkk).1.kinds.2.2.2 y hy
          exact fr_ne hv w rfl
      · rw [if_neg c]
        by_cases c2 : k = i
        · subst c2
          rw [if_pos rfl]
          intro y hy z
          rcases hN.2 y hy with w | w
          · exact d4 y w z
          · obtain ⟨v, hv⟩ := (hb j hj).1.kinds.2.2.2 y z
            exact fr_ne hv w rfl
        · rw [if_neg c2]; exact d4
/-- a number in range, as it can be looked up -/
abbrev InD (x : Int32) (n : Nat) : Prop := ¬ x < 0 ∧ x.toNatClampNeg < n
theorem inD_iff {x : Int32} {n : Nat} (hn : n ≤ 2 ^ 31) : Inn x n ↔ InD x n := by
  constructor
  · rintro ⟨i, hi, rfl⟩
    exact ⟨nI_pos (by omega), by rw [nI_clamp (by omega)]; exact hi⟩
  · rintro ⟨h1, h2⟩
    obtain ⟨j, hj, rfl⟩ := nI_of h1
    rw [nI_clamp hj] at h2
    exact ⟨j, h2, rfl⟩
end ClsS
