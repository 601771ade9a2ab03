/-! what is told stays sound; the kinds of answers; what the heap keeps -/
section Keep
variable {G : gG} {d : Nat}
theorem ten_p (k : Nat) : (0 : Int) < 10 ^ k := by
  induction k with
  | zero => decide
  | succ n ih =>
    rw [Int.pow_succ]
    omega
abbrev keptS (S : Nat → sB) : Prop := ∀ i, i < 3 → keptOK (S i)
theorem kp_up {S : Nat → sB} {i : Nat} {B : sB} (hS : keptS S) (hB : keptOK B) : keptS (upS S i B) := by
  intro j hj
  show keptOK (if j = i then B else S j)
  split
  · exact hB
  · exact hS j hj
theorem kp_open {S : Nat → sB} {i : Nat} {B : sB} (hS : keptS S) (h0 : B.cl = 0) : keptS (upS S i B) := kp_up hS (fun z => absurd h0 z)
theorem kp_spM {S : Nat → sB} {bill : Int32} {f : Nat → sB → aR × (Nat → sB)} (hS : keptS S) (hf : ∀ i, keptS (f i (S i)).2) : keptS (spM S bill f).2 := by
  unfold spM
  split
  · exact hf _
  · exact hS
theorem kp_if {c : Prop} [Decidable c] {a b : aR × (Nat → sB)} (h1 : c → keptS a.2) (h2 : ¬ c → keptS b.2) : keptS (if c then a else b).2 := by
  split
  · next h => exact h1 h
  · next h => exact h2 h
theorem tS_upT (ls : Nat → sL) (z : Nat → Int) (n : Nat) : ∀ k, k ≤ n → tSum (upT ls (fun k => LI (z k)) n) k = LI (sumTo z k)
  | 0, _ => rfl
  | k + 1, hk => by
    have e : (upT ls (fun k => LI (z k)) n k).t = LI (z k) := by
      rw [upT_lt _ _ (show k < n from hk)]
    show tSum (upT ls (fun k => LI (z k)) n) k + (upT ls (fun k => LI (z k)) n k).t = LI (sumTo z k + z k)
    rw [tS_upT ls z n k (by omega), e, LI_add]
theorem kp_tell (B : sB) {how : Nat} (hh : how = 1 ∨ how = 2) : keptOK (B.tell how) := by
  intro _
  have hL : 0 < B.L := ten_p _
  show tSum (upT B.ls (fun k => LI (toldZ B.e B.n B.L B.wy how k)) B.n) B.n = LI (totalZ (eX (upT B.ls (fun k => LI (toldZ B.e B.n B.L B.wy how k)) B.n)) B.n B.L B.wy)
  rw [tS_upT _ _ _ _ (Nat.le_refl _), upT_e]
  rcases hh with rfl | rfl
  · rw [show toldZ B.e B.n B.L B.wy 1 = byRestsZ B.e B.n B.L B.wy from funext fun k => if_pos rfl, sum_byRests _ _ hL]
  · rw [show toldZ B.e B.n B.L B.wy 2 = carriedZ B.e B.L B.wy from funext fun k => (if_neg (by decide)).trans (if_pos rfl), sum_carried]
theorem tS_put (ls : Nat → sL) (j : Nat) (p : Int32) (g : Nat) (c r : Int32) (V : Int64) : ∀ n, tSum (putL ls j (p, g, c, r, V)) n = tSum (putL ls j (p, g, c, r, 0)) n + (if j < n then V else 0)
  | 0 => by
    rw [if_neg (Nat.not_lt_zero _)]
    exact (Int64.add_zero _).symm
  | n + 1 => by
    have ih := tS_put ls j p g c r V n
    show tSum (putL ls j (p, g, c, r, V)) n + (putL ls j (p, g, c, r, V) n).t = tSum (putL ls j (p, g, c, r, 0)) n + (putL ls j (p, g, c, r, 0) n).t + _
    by_cases e : n = j
    · have e1 : (putL ls j (p, g, c, r, V) n).t = V := by
        show (if n = j then (p, g, c, r, V) else ls n : sL).t = V
        rw [if_pos e]
      have e2 : (putL ls j (p, g, c, r, 0) n).t = 0 := by
        show (if n = j then (p, g, c, r, 0) else ls n : sL).t = 0
        rw [if_pos e]
      rw [ih, e1, e2, if_neg (by omega), if_pos (by omega)]
    · have e1 : (putL ls j (p, g, c, r, V) n).t = (ls n).t := by
        show (if n = j then (p, g, c, r, V) else ls n : sL).t = _
        rw [if_neg e]
      have e2 : (putL ls j (p, g, c, r, 0) n).t = (ls n).t := by
        show (if n = j then (p, g, c, r, 0) else ls n : sL).t = _
        rw [if_neg e]
      rw [ih, e1, e2, show (if j < n then V else 0) = (if j < n + 1 then V else 0) from by by_cases c9 : j < n; rw [if_pos c9, if_pos (by omega)]; rw [if_neg c9, if_neg (by omega)], Int64.add_assoc, Int64.add_comm (if j < n + 1 then V else 0), ← Int64.add_assoc]
theorem kp_cor (B : sB) {j : Nat} (hj : j < B.n) (p : Int32) (g : Nat) (c : Int32) : keptOK (B.pl, B.wy, B.cl, B.n, putL (B.corL j p g c) j (p, g, c, (B.ls j).r, B.corV j p g c)) := by
  intro _
  show tSum (putL (putL B.ls j (p, g, c, (B.ls j).r, 0)) j (p, g, c, (B.ls j).r, B.corV j p g c)) B.n = LI (totalZ (eX (putL (putL B.ls j (p, g, c, (B.ls j).r, 0)) j (p, g, c, (B.ls j).r, B.corV j p g c))) B.n B.L B.wy)
  rw [putL_putL, tS_put, if_pos hj, putL_e _ _ _ _ _ _ _ 0]
  show tSum (B.corL j p g c) B.n + (LI (totalZ (eX (B.corL j p g c)) B.n B.L B.wy) - tSum (B.corL j p g c) B.n) = LI (totalZ (eX (B.corL j p g c)) B.n B.L B.wy)
  rw [Int64.add_comm, Int64.sub_add_cancel]
section
variable {S : Nat → sB}
theorem kp_cutBy (hS : keptS S) (bill p w : Int32) : keptS (sp_cutBy S bill p w).2 := kp_spM hS fun i => kp_if (fun _ => kp_if (fun c => kp_open hS c) fun _ => hS) fun _ => hS
theorem kp_line (hS : keptS S) (bill at9 p g c : Int32) : keptS (sp_line S bill at9 p g c).2 := kp_spM hS fun i => kp_if (fun _ => kp_if (fun _ => kp_if (fun c => kp_if (fun _ => kp_open hS c) fun _ => hS) fun _ => hS) fun _ => hS) fun _ => hS
theorem kp_rate (hS : keptS S) (bill at9 rt : Int32) : keptS (sp_rate S bill at9 rt).2 := kp_spM hS fun i => kp_if (fun _ => kp_if (fun _ => kp_if (fun c => kp_open hS c) fun _ => hS) fun _ => hS) fun _ => hS
theorem kp_remove (hS : keptS S) (bill at9 : Int32) : keptS (sp_remove S bill at9).2 := kp_spM hS fun i => kp_if (fun _ => kp_if (fun c => kp_open hS c) fun _ => hS) fun _ => hS
theorem kp_move (hS : keptS S) (bill f t : Int32) : keptS (sp_move S bill f t).2 := kp_spM hS fun i => kp_if (fun _ => kp_if (fun _ => kp_if (fun c => kp_open hS c) fun _ => hS) fun _ => hS) fun _ => hS
theorem kp_sort (hS : keptS S) (bill : Int32) : keptS (sp_sort S bill).2 := kp_spM hS fun i => kp_if (fun c => kp_open hS c) fun _ => hS
theorem kp_split (hS : keptS S) (bill at9 to : Int32) : keptS (sp_split S bill at9 to).2 := kp_spM hS fun i => kp_spM hS fun j => kp_if (fun _ => kp_if (fun _ => kp_if (fun c1 => kp_if (fun c2 => kp_if (fun _ => kp_open (kp_open hS c1) c2) fun _ => hS) fun _ => hS) fun _ => hS) fun _ => hS) fun _ => hS
theorem kp_copy (hS : keptS S) (bill to : Int32) : keptS (sp_copy S bill to).2 := kp_spM hS fun i => kp_spM hS fun j => kp_if (fun c => kp_if (fun _ => hS) fun _ => kp_open hS c) fun _ => hS
theorem kp_close (hS : keptS S) (bill how : Int32) : keptS (sp_close S bill how).2 := by
  refine kp_spM hS fun i => kp_if (fun c => kp_if (fun _ => kp_up hS (kp_tell _ ?_)) fun _ => hS) fun _ => hS
  have e : how.toNatClampNeg = how.toInt.toNat := rfl
  have := c.1
  have := c.2
  omega
theorem kp_open9 (hS : keptS S) (bill : Int32) : keptS (sp_open S bill).2 := kp_spM hS fun i => kp_if (fun _ => hS) fun _ => kp_open hS rfl
theorem kp_correct (hS : keptS S) (bill at9 p g c : Int32) : keptS (sp_correct S bill at9 p g c).2 := kp_spM hS fun i => kp_if (fun q => kp_if (fun _ => kp_if (fun _ => kp_up hS (kp_cor _ q.2 _ _ _)) fun _ => hS) fun _ => hS) fun _ => hS
end
section
variable {es : List String} {T : Value → Prop}
theorem okA_E {E : String} (h : E ∈ es) : okA es T (.inr E) := Or.inl ⟨E, h, rfl⟩
theorem okA_V {v : Value} (h : T v) : okA es T (.inl (some v)) := Or.inr ⟨v, rfl, h⟩
theorem okA_spB {S : Nat → sB} {bill : Int32} {f : sB → aR} (h0 : eIO ∈ es) (hf : ∀ i, i < 3 → okA es T (f (S i))) : okA es T (spB S bill f) := by
  unfold spB
  split
  · next c => exact hf _ c.2
  · exact okA_E h0
theorem okA_spI {n : Nat} {at9 : Int32} {f : Nat → aR} (h0 : eIO ∈ es) (hf : ∀ j, j < n → okA es T (f j)) : okA es T (spI n at9 f) := by
  unfold spI
  split
  · next c => exact hf _ c.2
  · exact okA_E h0
theorem okA_spM {S : Nat → sB} {bill : Int32} {f : Nat → sB → aR × (Nat → sB)} (h0 : eIO ∈ es) (hf : ∀ i B, okA es T (f i B).1) : okA es T (spM S bill f).1 := by
  unfold spM
  split
  · exact hf _ _
  · exact okA_E h0
theorem okA_if {c : Prop} [Decidable c] {a b : aR} (h1 : c → okA es T a) (h2 : ¬ c → okA es T b) : okA es T (if c then a else b) := by
  split
  · next h => exact h1 h
  · next h => exact h2 h
theorem okA_if1 {c : Prop} [Decidable c] {a b : aR × (Nat → sB)} (h1 : c → okA es T a.1) (h2 : ¬ c → okA es T b.1) : okA es T (if c then a else b).1 := by
  split
  · next h => exact h1 h
  · next h => exact h2 h
end
section
variable {es : List String} {A : aR} {h1 h2 : aH} {o : Nat}
theorem thC_ne (E : String) : thC es (.inr E) ≠ 0 := by
  show (if es[0]? = some E then (1 : Int32) else if es[1]? = some E then 2 else 3) ≠ 0
  split
  · decide
  · split <;> decide
theorem fin_i (z0 : Int32) (hA : okA es tI A) (hc : (∃ E, A = .inr E ∧ h2 = h1) ∨ ∃ v, A = .inl (some v) ∧ h2 = aUp h1 o (11, [cvI v])) : ∃ y : Int32, mvD (.int z0) A = .int y ∧ (thC es A = 0 → h2 o = some (11, [.long y.toInt64])) := by
  rcases hc with ⟨E, rfl, rfl⟩ | ⟨v, rfl, rfl⟩
  · exact ⟨z0, rfl, fun z => absurd z (thC_ne E)⟩
  · rcases hA with ⟨E, hE, z⟩ | ⟨v, z, y, rfl⟩
    · cases z
    · cases z
      exact ⟨y, rfl, fun _ => aUp_eq _ _ _⟩
theorem fin_b (z0 : Int32) (hA : okA es tI A) (hc : (∃ E, A = .inr E ∧ h2 = h1) ∨ ∃ v, A = .inl (some v) ∧ h2 = aUp h1 o (11, [cvB v])) : ∃ y : Int32, mvD (.int z0) A = .int y ∧ (thC es A = 0 → h2 o = some (11, [.long (if y = 0 then 0 else 1)])) := by
  rcases hc with ⟨E, rfl, rfl⟩ | ⟨v, rfl, rfl⟩
  · exact ⟨z0, rfl, fun z => absurd z (thC_ne E)⟩
  · rcases hA with ⟨E, hE, z⟩ | ⟨v, z, y, rfl⟩
    · cases z
    · cases z
      exact ⟨y, rfl, fun _ => aUp_eq _ _ _⟩
theorem fin_l (z0 : Int64) (hA : okA es tL A) (hc : (∃ E, A = .inr E ∧ h2 = h1) ∨ ∃ v, A = .inl (some v) ∧ h2 = aUp h1 o (11, [cvL v])) : ∃ y : Int64, mvD (.long z0) A = .long y ∧ (thC es A = 0 → h2 o = some (11, [.long y])) := by
  rcases hc with ⟨E, rfl, rfl⟩ | ⟨v, rfl, rfl⟩
  · exact ⟨z0, rfl, fun z => absurd z (thC_ne E)⟩
  · rcases hA with ⟨E, hE, z⟩ | ⟨v, z, y, rfl⟩
    · cases z
    · cases z
      exact ⟨y, rfl, fun _ => aUp_eq _ _ _⟩
theorem fin_d (z0 : UInt64) (hA : okA es tD A) (hc : (∃ E, A = .inr E ∧ h2 = h1) ∨ ∃ v, A = .inl (some v) ∧ h2 = aUp h1 o (12, [cvL v])) : ∃ y : UInt64, mvD (.double z0) A = .double y ∧ (thC es A = 0 → h2 o = some (12, [.double y]) ∧ FP.dcmp y y = some .eq) := by
  rcases hc with ⟨E, rfl, rfl⟩ | ⟨v, rfl, rfl⟩
  · exact ⟨z0, rfl, fun z => absurd z (thC_ne E)⟩
  · rcases hA with ⟨E, hE, z⟩ | ⟨v, z, y, rfl, hy⟩
    · cases z
    · cases z
      exact ⟨y, rfl, fun _ => ⟨aUp_eq _ _ _, hy⟩⟩
theorem fin_f (z0 : UInt32) (hA : okA es tF A) (hc : (∃ E, A = .inr E ∧ h2 = h1) ∨ ∃ v, A = .inl (some v) ∧ h2 = aUp h1 o (12, [cvF v])) : ∃ y : UInt32, mvD (.float z0) A = .float y ∧ (thC es A = 0 → h2 o = some (12, [.double (FP.f2d y)]) ∧ vf_n64 (FP.f2d y) ∧ FP.dcmp (FP.f2d y) (FP.f2d y) = some .eq) := by
  rcases hc with ⟨E, rfl, rfl⟩ | ⟨v, rfl, rfl⟩
  · exact ⟨z0, rfl, fun z => absurd z (thC_ne E)⟩
  · rcases hA with ⟨E, hE, z⟩ | ⟨v, z, y, rfl, hy⟩
    · cases z
    · cases z
      exact ⟨y, rfl, fun _ => ⟨aUp_eq _ _ _, hy⟩⟩
end
section
variable {h h1 : aH} {x m o oD sc : Nat} {V : List Value} {S S' : Nat → sB}
theorem Cls.keep (hC : Cls G h x S) (hk : ∀ q k v, h q = some (k, v) → (k = 0 ∨ k = 1 ∨ k = 2 ∨ k = 4 ∨ k = 13 ∨ k = 14 ∨ k = 21) → h1 q = some (k, v)) : Cls G h1 x S := by
  obtain ⟨q, fb, fa, fe, fx, hx, hq, hb, hD⟩ := hC
  refine ⟨q, fb, fa, fe, fx, hk _ _ _ hx (by decide), hk _ _ _ hq (by decide), ?_, hD⟩
  intro i hi
  obtain ⟨⟨b1, ⟨a1, ⟨m, a2⟩, a3⟩, b3, b4⟩, b5⟩ := hb i hi
  refine ⟨⟨hk _ _ _ b1 (by decide), ⟨a1, ⟨m, hk _ _ _ a2 (by decide)⟩, ?_⟩, ?_, b4⟩, b5⟩
  · rcases a3 with ⟨c1, c2, c3⟩ | ⟨c1, c2⟩
    · exact Or.inl ⟨c1, c2, hk _ _ _ c3 (by decide)⟩
    · exact Or.inr ⟨c1, hk _ _ _ c2 (by decide)⟩
  · intro j hj
    exact hk _ _ _ (b3 j hj) (by decide)
theorem Mod.keepC {tt : Nat → Nat} {th : Int32} (hM : Mod h m tt th S) (hk : kC2 h h1) : Mod h1 m tt th S := by
  obtain ⟨P, W, C, Z, A, T, al, fx, hA⟩ := hM
  exact (hA.keep (hk _ _ _ hA.1 (by decide) (by decide) (by decide) (by decide)) (fun q k v e z => hk q k v e (by omega) (by omega) (by omega) (by omega))).mod
theorem Mod.out {tt : Nat → Nat} {th : Int32} {k9 : Nat} {w0 w : List Value} (hM : Mod h m tt th S) (hk9 : k9 = 11 ∨ k9 = 12) (ho : h o = some (k9, w0)) (hd : ∀ i, i < 3 → o ≠ tt i) : Mod (aUp h o (k9, w)) m tt th S := by
  obtain ⟨P, W, C, Z, A, T, al, fx, hm, hP, hW, hC, hZ, hA, hT, hb, hD⟩ := hM
  have hk : ∀ q k v, h q = some (k, v) → k ≠ 11 → k ≠ 12 → aUp h o (k9, w) q = some (k, v) := fun q k v e z1 z2 => (aUp_ne (kd_ne e ho (by omega))).trans e
  refine ⟨P, W, C, Z, A, T, al, fx, hk _ _ _ hm (by decide) (by decide), hk _ _ _ hP (by decide) (by decide), hk _ _ _ hW (by decide) (by decide), hk _ _ _ hC (by decide) (by decide), hk _ _ _ hZ (by decide) (by decide), hk _ _ _ hA (by decide) (by decide), hk _ _ _ hT (by decide) (by decide), ?_, hD⟩
  intro i hi
  obtain ⟨⟨V, b1, b2⟩, ⟨U, b3, b4⟩, b5, b6, b7⟩ := hb i hi
  exact ⟨⟨V, hk _ _ _ b1 (by decide) (by decide), b2⟩, ⟨U, (aUp_ne (hd i hi).symm).trans b3, b4⟩, b5, fun k hk2 => hk _ _ _ (b6 k hk2) (by decide) (by decide), b7⟩
/-- between the two calls: the class is at S', the reference at S -/
def LMid (G : gG) (sc x m o oD : Nat) (V : List Value) (S S' : Nat → sB) (h : aH) : Prop :=
  Cls G h x S' ∧ (∃ tt th, Mod h m tt th S ∧ (∀ i, i < 3 → o ≠ tt i) ∧ ∀ i, i < 3 → oD ≠ tt i) ∧ (∃ w, h o = some (11, [w])) ∧ (∃ w, h oD = some (12, [w])) ∧ h sc = some (20, V)
theorem LMid.cls (hI : LMid G sc x m o oD V S S h) (hC : Cls G h1 x S') (hk : kC2 h h1) : LMid G sc x m o oD V S S' h1 := by
  obtain ⟨-, ⟨tt, th, hM, hd⟩, ⟨w1, hw1⟩, ⟨w2, hw2⟩, hs⟩ := hI
  exact ⟨hC, ⟨tt, th, hM.keepC hk, hd⟩, ⟨w1, hk _ _ _ hw1 (by decide) (by decide) (by decide) (by decide)⟩, ⟨w2, hk _ _ _ hw2 (by decide) (by decide) (by decide) (by decide)⟩, hk _ _ _ hs (by decide) (by decide) (by decide) (by decide)⟩
theorem LMid.out {w : Value} (hI : LMid G sc x m o oD V S S' h) : LMid G sc x m o oD V S S' (aUp h o (11, [w])) := by
  obtain ⟨hC, ⟨tt, th, hM, hd⟩, ⟨w1, hw1⟩, ⟨w2, hw2⟩, hs⟩ := hI
  exact ⟨hC.keep fun q k v e z => (aUp_ne (kd_ne e hw1 (by omega))).trans e, ⟨tt, th, hM.out (Or.inl rfl) hw1 hd.1, hd⟩, ⟨w, aUp_eq _ _ _⟩, ⟨w2, (aUp_ne (kd_ne hw2 hw1 (by decide))).trans hw2⟩, (aUp_ne (kd_ne hs hw1 (by decide))).trans hs⟩
theorem LMid.outD {w : Value} (hI : LMid G sc x m o oD V S S' h) : LMid G sc x m o oD V S S' (aUp h oD (12, [w])) := by
  obtain ⟨hC, ⟨tt, th, hM, hd⟩, ⟨w1, hw1⟩, ⟨w2, hw2⟩, hs⟩ := hI
  exact ⟨hC.keep fun q k v e z => (aUp_ne (kd_ne e hw2 (by omega))).trans e, ⟨tt, th, hM.out (Or.inr rfl) hw2 hd.2, hd⟩, ⟨w1, (aUp_ne (kd_ne hw1 hw2 (by decide))).trans hw1⟩, ⟨w, aUp_eq _ _ _⟩, (aUp_ne (kd_ne hs hw2 (by decide))).trans hs⟩
/-- a call of the reference: the class and the cells of answers stay -/
theorem LMid.mod {tt : Nat → Nat} {th : Int32} (hI : LMid G sc x m o oD V S S' h) (hd : (∀ i, i < 3 → o ≠ tt i) ∧ ∀ i, i < 3 → oD ≠ tt i) (hM : Mod h1 m tt th S') (hk : kMo tt h h1) : LMid G sc x m o oD V S' S' h1 ∧ h1 o = h o ∧ h1 oD = h oD := by
  obtain ⟨hC, -, ⟨w1, hw1⟩, ⟨w2, hw2⟩, hs⟩ := hI
  have e1 : h1 o = some (11, [w1]) := hk _ _ _ hw1 (by decide) (by decide) (by decide) (fun _ => hd.1)
  have e2 : h1 oD = some (12, [w2]) := hk _ _ _ hw2 (by decide) (by decide) (by decide) (fun z => absurd z (by decide))
  exact ⟨⟨hC.keep fun q k v e z => hk q k v e (by omega) (by omega) (by omega) (fun z2 => by omega), ⟨tt, th, hM, hd⟩, ⟨w1, e1⟩, ⟨w2, e2⟩, hk _ _ _ hs (by decide) (by decide) (by decide) (fun z => absurd z (by decide))⟩, e1.trans hw1.symm, e2.trans hw2.symm⟩
/-- the law's own state at the head of its loop -/
def LInv (G : gG) (sc x m o oD : Nat) (V : List Value) (S : Nat → sB) (h : aH) : Prop := LMid G sc x m o oD V S S h ∧ keptS S
theorem rdS {i : Nat} {f : Nat → Int32} {k : Value → Prop} (hs : h sc = some (20, V)) (hf : ∀ j, j < V.length → V[j]? = some (.int (f j))) (hl : V.length < 100000) (j : Nat) {e : Int32} (he : e = nI (i + j)) (hij : i + j < V.length) (hk : k (.int (f (i + j)))) : aArr h sc (fun c vs => c ∈ [10, 20] ∧ ¬ e < 0 ∧ aVal vs e.toNatClampNeg k) := by
  subst he
  exact aArr.mk hs (by decide) ⟨by decide, nI_pos (by omega), aVal.mk (by rw [nI_clamp (by omega)]; exact hf _ hij) hk⟩
theorem g_thrown (hst : (gl G).stackTraces = false) (hd : 12 ≤ d) {tt : Nat → Nat} {th : Int32} (hM : Mod h m tt th S) : CT G iX3_thrown d 0 0 [.ref m] h (kV (.int th) h) := by
  obtain ⟨P, W, C, Z, A, T, al, fx, hA⟩ := hM
  have hm := hA.1
  refine ct_of (L := [some (.ref m)]) (plainFor_of_name (by decide +kernel)) rfl hst rfl rfl (Nat.le_of_ble_eq_true rfl) ?_
  refine bX3_thrown_0 (by omega) _ _ _ _ _ ?_
  try simp only [o_mna3, o_mna2, o_sfmt, o_sget, o_salen, o_sbald, o_i2c, o_callS, o_iadd, o_isub, o_imul, o_iand, o_ladd, o_lsub, o_lmul, o_land, o_lxor, o_ineg, o_lneg, o_i2l, o_l2i, o_i2f, o_l2d, o_lcmp, o_dcmp, o_fcmp, o_ldiv, o_lrem, o_fdiv, o_ddiv, o_f2d, o_c, o_iload, o_lload, o_fload, o_dload, o_aload, o_istore, o_lstore, o_fstore, o_dstore, o_astore, o_iinc, o_dup, o_pop, o_dupx1, o_dup2, o_dup2l, o_ifeq, o_iceq, o_ifne, o_icne, o_iflt, o_iclt, o_ifge, o_icge, o_ifgt, o_icgt, o_ifle, o_icle, o_at, o_iret, o_lret, o_fret, o_dret, o_zret, o_cret, o_vret, o_aret, o_get, o_put, o_new, o_ald, o_iast, o_last, o_dast, o_aast, o_alen, o_newa, o_cast, o_acmpeq, o_acmpne, o_calls, o_callv, o_calln, o_calli, o_obj, o_throw, o_callh, o_sw, o_acopy, lg, lset1, lset2, lk, aPop, Value.category, List.map_cons, List.map_nil, List.sum_cons, List.sum_nil, Option.toList, List.cons_append, List.nil_append, true_and, and_true, aTFit, if_true, if_false, kV, eq_self, and_self]
  refine aObj.mk hm (aVal.mk rfl ?_)
  try simp only [o_mna3, o_mna2, o_sfmt, o_sget, o_salen, o_sbald, o_i2c, o_callS, o_iadd, o_isub, o_imul, o_iand, o_ladd, o_lsub, o_lmul, o_land, o_lxor, o_ineg, o_lneg, o_i2l, o_l2i, o_i2f, o_l2d, o_lcmp, o_dcmp, o_fcmp, o_ldiv, o_lrem, o_fdiv, o_ddiv, o_f2d, o_c, o_iload, o_lload, o_fload, o_dload, o_aload, o_istore, o_lstore, o_fstore, o_dstore, o_astore, o_iinc, o_dup, o_pop, o_dupx1, o_dup2, o_dup2l, o_ifeq, o_iceq, o_ifne, o_icne, o_iflt, o_iclt, o_ifge, o_icge, o_ifgt, o_icgt, o_ifle, o_icle, o_at, o_iret, o_lret, o_fret, o_dret, o_zret, o_cret, o_vret, o_aret, o_get, o_put, o_new, o_ald, o_iast, o_last, o_dast, o_aast, o_alen, o_newa, o_cast, o_acmpeq, o_acmpne, o_calls, o_callv, o_calln, o_calli, o_obj, o_throw, o_callh, o_sw, o_acopy, lg, lset1, lset2, lk, aPop, Value.category, List.map_cons, List.map_nil, List.sum_cons, List.sum_nil, Option.toList, List.cons_append, List.nil_append, true_and, and_true, aTFit, if_true, if_false, kV, eq_self, and_self]
  all_goals first | trivial | decide | exact ⟨by decide, rfl, rfl⟩ | exact ⟨by decide, rfl⟩ | exact ⟨rfl, rfl⟩ | rfl | simp
end
theorem ok_cutBy (S : Nat → sB) (bill p w : Int32) : okA [eIO, eIA, eIS] tI ((sp_cutBy S bill p w).1) := by
  unfold sp_cutBy
  repeat' first | (refine okA_spB (by simp) ?_; intro i hi) | (refine okA_spI (by simp) ?_; intro j hj) | (refine okA_spM (by simp) ?_; intro i B) | (refine okA_if ?_ ?_ <;> intro c9) | (refine okA_if1 ?_ ?_ <;> intro c9) | exact okA_E (by simp) | exact okA_V ⟨_, rfl⟩
theorem ok_way (S : Nat → sB) (bill : Int32) : okA [eIO] tI ((spB S bill fun B => .inl (some (.int (wyC B.wy))))) := by
  repeat' first | (refine okA_spB (by simp) ?_; intro i hi) | (refine okA_spI (by simp) ?_; intro j hj) | (refine okA_spM (by simp) ?_; intro i B) | (refine okA_if ?_ ?_ <;> intro c9) | (refine okA_if1 ?_ ?_ <;> intro c9) | exact okA_E (by simp) | exact okA_V ⟨_, rfl⟩
theorem ok_line (S : Nat → sB) (bill at9 p g c : Int32) : okA [eIO, eIA, eIS] tI ((sp_line S bill at9 p g c).1) := by
  unfold sp_line
  repeat' first | (refine okA_spB (by simp) ?_; intro i hi) | (refine okA_spI (by simp) ?_; intro j hj) | (refine okA_spM (by simp) ?_; intro i B) | (refine okA_if ?_ ?_ <;> intro c9) | (refine okA_if1 ?_ ?_ <;> intro c9) | exact okA_E (by simp) | exact okA_V ⟨_, rfl⟩
theorem ok_rate (S : Nat → sB) (bill at9 rt : Int32) : okA [eIO, eIA, eIS] tI ((sp_rate S bill at9 rt).1) := by
  unfold sp_rate
  repeat' first | (refine okA_spB (by simp) ?_; intro i hi) | (refine okA_spI (by simp) ?_; intro j hj) | (refine okA_spM (by simp) ?_; intro i B) | (refine okA_if ?_ ?_ <;> intro c9) | (refine okA_if1 ?_ ?_ <;> intro c9) | exact okA_E (by simp) | exact okA_V ⟨_, rfl⟩
theorem ok_remove (S : Nat → sB) (bill at9 : Int32) : okA [eIO, eIS] tI ((sp_remove S bill at9).1) := by
  unfold sp_remove
  repeat' first | (refine okA_spB (by simp) ?_; intro i hi) | (refine okA_spI (by simp) ?_; intro j hj) | (refine okA_spM (by simp) ?_; intro i B) | (refine okA_if ?_ ?_ <;> intro c9) | (refine okA_if1 ?_ ?_ <;> intro c9) | exact okA_E (by simp) | exact okA_V ⟨_, rfl⟩
theorem ok_move (S : Nat → sB) (bill f t : Int32) : okA [eIO, eIS] tI ((sp_move S bill f t).1) := by
  unfold sp_move
  repeat' first | (refine okA_spB (by simp) ?_; intro i hi) | (refine okA_spI (by simp) ?_; intro j hj) | (refine okA_spM (by simp) ?_; intro i B) | (refine okA_if ?_ ?_ <;> intro c9) | (refine okA_if1 ?_ ?_ <;> intro c9) | exact okA_E (by simp) | exact okA_V ⟨_, rfl⟩
theorem ok_sort (S : Nat → sB) (bill : Int32) : okA [eIO, eIS] tI ((sp_sort S bill).1) := by
  unfold sp_sort
  repeat' first | (refine okA_spB (by simp) ?_; intro i hi) | (refine okA_spI (by simp) ?_; intro j hj) | (refine okA_spM (by simp) ?_; intro i B) | (refine okA_if ?_ ?_ <;> intro c9) | (refine okA_if1 ?_ ?_ <;> intro c9) | exact okA_E (by simp) | exact okA_V ⟨_, rfl⟩
theorem ok_split (S : Nat → sB) (bill at9 to : Int32) : okA [eIO, eIA, eIS] tI ((sp_split S bill at9 to).1) := by
  unfold sp_split
  repeat' first | (refine okA_spB (by simp) ?_; intro i hi) | (refine okA_spI (by simp) ?_; intro j hj) | (refine okA_spM (by simp) ?_; intro i B) | (refine okA_if ?_ ?_ <;> intro c9) | (refine okA_if1 ?_ ?_ <;> intro c9) | exact okA_E (by simp) | exact okA_V ⟨_, rfl⟩
theorem ok_copy (S : Nat → sB) (bill to : Int32) : okA [eIO, eIS] tI ((sp_copy S bill to).1) := by
  unfold sp_copy
  repeat' first | (refine okA_spB (by simp) ?_; intro i hi) | (refine okA_spI (by simp) ?_; intro j hj) | (refine okA_spM (by simp) ?_; intro i B) | (refine okA_if ?_ ?_ <;> intro c9) | (refine okA_if1 ?_ ?_ <;> intro c9) | exact okA_E (by simp) | exact okA_V ⟨_, rfl⟩
theorem ok_lines (S : Nat → sB) (bill : Int32) : okA [eIO] tI ((spB S bill fun B => aInt B.n)) := by
  repeat' first | (refine okA_spB (by simp) ?_; intro i hi) | (refine okA_spI (by simp) ?_; intro j hj) | (refine okA_spM (by simp) ?_; intro i B) | (refine okA_if ?_ ?_ <;> intro c9) | (refine okA_if1 ?_ ?_ <;> intro c9) | exact okA_E (by simp) | exact okA_V ⟨_, rfl⟩
theorem ok_isSame (S : Nat → sB) (bill other : Int32) : okA [eIO] tI ((spB S bill fun B => spB S other fun C => .inl (some (.int (if sameP B.n C.n B.ls C.ls then 1 else 0))))) := by
  repeat' first | (refine okA_spB (by simp) ?_; intro i hi) | (refine okA_spI (by simp) ?_; intro j hj) | (refine okA_spM (by simp) ?_; intro i B) | (refine okA_if ?_ ?_ <;> intro c9) | (refine okA_if1 ?_ ?_ <;> intro c9) | exact okA_E (by simp) | exact okA_V ⟨_, rfl⟩
theorem ok_exact (S : Nat → sB) (bill at9 : Int32) : okA [eIO] tL ((spB S bill fun B => spI B.n at9 fun j => aLong (B.e j))) := by
  repeat' first | (refine okA_spB (by simp) ?_; intro i hi) | (refine okA_spI (by simp) ?_; intro j hj) | (refine okA_spM (by simp) ?_; intro i B) | (refine okA_if ?_ ?_ <;> intro c9) | (refine okA_if1 ?_ ?_ <;> intro c9) | exact okA_E (by simp) | exact okA_V ⟨_, rfl⟩
theorem ok_whole (S : Nat → sB) (bill : Int32) : okA [eIO] tL ((spB S bill fun B => aLong (sumTo B.e B.n))) := by
  repeat' first | (refine okA_spB (by simp) ?_; intro i hi) | (refine okA_spI (by simp) ?_; intro j hj) | (refine okA_spM (by simp) ?_; intro i B) | (refine okA_if ?_ ?_ <;> intro c9) | (refine okA_if1 ?_ ?_ <;> intro c9) | exact okA_E (by simp) | exact okA_V ⟨_, rfl⟩
theorem ok_total (S : Nat → sB) (bill : Int32) : okA [eIO] tL ((spB S bill fun B => aLong (totalZ B.e B.n B.L B.wy))) := by
  repeat' first | (refine okA_spB (by simp) ?_; intro i hi) | (refine okA_spI (by simp) ?_; intro j hj) | (refine okA_spM (by simp) ?_; intro i B) | (refine okA_if ?_ ?_ <;> intro c9) | (refine okA_if1 ?_ ?_ <;> intro c9) | exact okA_E (by simp) | exact okA_V ⟨_, rfl⟩
theorem ok_alone (S : Nat → sB) (bill at9 : Int32) : okA [eIO] tL ((spB S bill fun B => spI B.n at9 fun j => aLong (aloneZ B.e B.L B.wy j))) := by
  repeat' first | (refine okA_spB (by simp) ?_; intro i hi) | (refine okA_spI (by simp) ?_; intro j hj) | (refine okA_spM (by simp) ?_; intro i B) | (refine okA_if ?_ ?_ <;> intro c9) | (refine okA_if1 ?_ ?_ <;> intro c9) | exact okA_E (by simp) | exact okA_V ⟨_, rfl⟩
theorem ok_byRests (S : Nat → sB) (bill at9 : Int32) : okA [eIO] tL ((spB S bill fun B => spI B.n at9 fun j => aLong (byRestsZ B.e B.n B.L B.wy j))) := by
  repeat' first | (refine okA_spB (by simp) ?_; intro i hi) | (refine okA_spI (by simp) ?_; intro j hj) | (refine okA_spM (by simp) ?_; intro i B) | (refine okA_if ?_ ?_ <;> intro c9) | (refine okA_if1 ?_ ?_ <;> intro c9) | exact okA_E (by simp) | exact okA_V ⟨_, rfl⟩
theorem ok_carried (S : Nat → sB) (bill at9 : Int32) : okA [eIO] tL ((spB S bill fun B => spI B.n at9 fun j => aLong (carriedZ B.e B.L B.wy j))) := by
  repeat' first | (refine okA_spB (by simp) ?_; intro i hi) | (refine okA_spI (by simp) ?_; intro j hj) | (refine okA_spM (by simp) ?_; intro i B) | (refine okA_if ?_ ?_ <;> intro c9) | (refine okA_if1 ?_ ?_ <;> intro c9) | exact okA_E (by simp) | exact okA_V ⟨_, rfl⟩
theorem ok_rank (S : Nat → sB) (bill at9 : Int32) : okA [eIO] tI ((spB S bill fun B => spI B.n at9 fun j => aInt (rankZ B.e B.n B.L j))) := by
  repeat' first | (refine okA_spB (by simp) ?_; intro i hi) | (refine okA_spI (by simp) ?_; intro j hj) | (refine okA_spM (by simp) ?_; intro i B) | (refine okA_if ?_ ?_ <;> intro c9) | (refine okA_if1 ?_ ?_ <;> intro c9) | exact okA_E (by simp) | exact okA_V ⟨_, rfl⟩
theorem ok_raised (S : Nat → sB) (bill : Int32) : okA [eIO] tI ((spB S bill fun B => .inl (some (.int (Int32.ofInt (raisedZ B.e B.n B.L B.wy)))))) := by
  repeat' first | (refine okA_spB (by simp) ?_; intro i hi) | (refine okA_spI (by simp) ?_; intro j hj) | (refine okA_spM (by simp) ?_; intro i B) | (refine okA_if ?_ ?_ <;> intro c9) | (refine okA_if1 ?_ ?_ <;> intro c9) | exact okA_E (by simp) | exact okA_V ⟨_, rfl⟩
theorem ok_gap (S : Nat → sB) (bill : Int32) : okA [eIO] tL ((spB S bill fun B => aLong (sumTo (aloneZ B.e B.L B.wy) B.n - totalZ B.e B.n B.L B.wy))) := by
  repeat' first | (refine okA_spB (by simp) ?_; intro i hi) | (refine okA_spI (by simp) ?_; intro j hj) | (refine okA_spM (by simp) ?_; intro i B) | (refine okA_if ?_ ?_ <;> intro c9) | (refine okA_if1 ?_ ?_ <;> intro c9) | exact okA_E (by simp) | exact okA_V ⟨_, rfl⟩
theorem ok_off (S : Nat → sB) (bill how : Int32) : okA [eIO, eIA] tL ((spB S bill fun B => if InD how 3 then aLong (offZ B.e B.n B.L B.wy how.toNatClampNeg) else .inr eIA)) := by
  repeat' first | (refine okA_spB (by simp) ?_; intro i hi) | (refine okA_spI (by simp) ?_; intro j hj) | (refine okA_spM (by simp) ?_; intro i B) | (refine okA_if ?_ ?_ <;> intro c9) | (refine okA_if1 ?_ ?_ <;> intro c9) | exact okA_E (by simp) | exact okA_V ⟨_, rfl⟩
theorem ok_close (S : Nat → sB) (bill how : Int32) : okA [eIO, eIA, eIS] tI ((sp_close S bill how).1) := by
  unfold sp_close
  repeat' first | (refine okA_spB (by simp) ?_; intro i hi) | (refine okA_spI (by simp) ?_; intro j hj) | (refine okA_spM (by simp) ?_; intro i B) | (refine okA_if ?_ ?_ <;> intro c9) | (refine okA_if1 ?_ ?_ <;> intro c9) | exact okA_E (by simp) | exact okA_V ⟨_, rfl⟩
theorem ok_told (S : Nat → sB) (bill at9 : Int32) : okA [eIO, eIS] tL ((spB S bill fun B => spI B.n at9 fun j => if B.cl = 0 then .inr eIS else .inl (some (.long (B.ls j).t)))) := by
  repeat' first | (refine okA_spB (by simp) ?_; intro i hi) | (refine okA_spI (by simp) ?_; intro j hj) | (refine okA_spM (by simp) ?_; intro i B) | (refine okA_if ?_ ?_ <;> intro c9) | (refine okA_if1 ?_ ?_ <;> intro c9) | exact okA_E (by simp) | exact okA_V ⟨_, rfl⟩
theorem ok_correct (S : Nat → sB) (bill at9 p g c : Int32) : okA [eIO, eIA, eIS] tL ((sp_correct S bill at9 p g c).1) := by
  unfold sp_correct
  repeat' first | (refine okA_spB (by simp) ?_; intro i hi) | (refine okA_spI (by simp) ?_; intro j hj) | (refine okA_spM (by simp) ?_; intro i B) | (refine okA_if ?_ ?_ <;> intro c9) | (refine okA_if1 ?_ ?_ <;> intro c9) | exact okA_E (by simp) | exact okA_V ⟨_, rfl⟩
theorem ok_open (S : Nat → sB) (bill : Int32) : okA [eIO, eIS] tI ((sp_open S bill).1) := by
  unfold sp_open
  repeat' first | (refine okA_spB (by simp) ?_; intro i hi) | (refine okA_spI (by simp) ?_; intro j hj) | (refine okA_spM (by simp) ?_; intro i B) | (refine okA_if ?_ ?_ <;> intro c9) | (refine okA_if1 ?_ ?_ <;> intro c9) | exact okA_E (by simp) | exact okA_V ⟨_, rfl⟩
theorem ok_onTop (S : Nat → sB) (net rate way : Int32) : okA [eIA] tL ((if Rng rate 0 9999 ∧ InD way 7 then aLong (cutZ (net.toInt * (10000 + rate.toInt)) 10000 way.toNatClampNeg) else .inr eIA)) := by
  repeat' first | (refine okA_spB (by simp) ?_; intro i hi) | (refine okA_spI (by simp) ?_; intro j hj) | (refine okA_spM (by simp) ?_; intro i B) | (refine okA_if ?_ ?_ <;> intro c9) | (refine okA_if1 ?_ ?_ <;> intro c9) | exact okA_E (by simp) | exact okA_V ⟨_, rfl⟩
theorem ok_within (S : Nat → sB) (net rate way : Int32) : okA [eIA] tL ((if Rng rate 0 9999 ∧ InD way 7 then aLong (cutZ (net.toInt * 10000) (10000 + rate.toInt) way.toNatClampNeg) else .inr eIA)) := by
  repeat' first | (refine okA_spB (by simp) ?_; intro i hi) | (refine okA_spI (by simp) ?_; intro j hj) | (refine okA_spM (by simp) ?_; intro i B) | (refine okA_if ?_ ?_ <;> intro c9) | (refine okA_if1 ?_ ?_ <;> intro c9) | exact okA_E (by simp) | exact okA_V ⟨_, rfl⟩
theorem ok_undone (S : Nat → sB) (net rate w1 w2 : Int32) : okA [eIA] tI ((if Rng rate 0 9999 ∧ InD w1 7 ∧ InD w2 7 then .inl (some (.int (Int32.ofInt (cutZ (cutZ (net.toInt * (10000 + rate.toInt)) 10000 w1.toNatClampNeg * 10000) (10000 + rate.toInt) w2.toNatClampNeg - net.toInt)))) else .inr eIA)) := by
  repeat' first | (refine okA_spB (by simp) ?_; intro i hi) | (refine okA_spI (by simp) ?_; intro j hj) | (refine okA_spM (by simp) ?_; intro i B) | (refine okA_if ?_ ?_ <;> intro c9) | (refine okA_if1 ?_ ?_ <;> intro c9) | exact okA_E (by simp) | exact okA_V ⟨_, rfl⟩
theorem ok_redone (S : Nat → sB) (net rate w1 w2 : Int32) : okA [eIA] tI ((if Rng rate 0 9999 ∧ InD w1 7 ∧ InD w2 7 then .inl (some (.int (Int32.ofInt (cutZ (cutZ (net.toInt * 10000) (10000 + rate.toInt) w1.toNatClampNeg * (10000 + rate.toInt)) 10000 w2.toNatClampNeg - net.toInt)))) else .inr eIA)) := by
  repeat' first | (refine okA_spB (by simp) ?_; intro i hi) | (refine okA_spI (by simp) ?_; intro j hj) | (refine okA_spM (by simp) ?_; intro i B) | (refine okA_if ?_ ?_ <;> intro c9) | (refine okA_if1 ?_ ?_ <;> intro c9) | exact okA_E (by simp) | exact okA_V ⟨_, rfl⟩
theorem ok_abroad (S : Nat → sB) (bill at9 p g k : Int32) : okA [eIO, eIA] tL ((spB S bill fun B => spI B.n at9 fun j => if okMD p g k then aLong (cutZ (aloneZ B.e B.L B.wy j * (p.toInt * 10 ^ k.toNatClampNeg)) (10 ^ (B.pl + g.toNatClampNeg)) B.wy) else .inr eIA)) := by
  repeat' first | (refine okA_spB (by simp) ?_; intro i hi) | (refine okA_spI (by simp) ?_; intro j hj) | (refine okA_spM (by simp) ?_; intro i B) | (refine okA_if ?_ ?_ <;> intro c9) | (refine okA_if1 ?_ ?_ <;> intro c9) | exact okA_E (by simp) | exact okA_V ⟨_, rfl⟩
theorem ok_home (S : Nat → sB) (bill at9 p g k : Int32) : okA [eIO, eIA] tI ((spB S bill fun B => spI B.n at9 fun j => if okMD p g k then .inl (some (.int (Int32.ofInt (cutZ (cutZ (aloneZ B.e B.L B.wy j * (p.toInt * 10 ^ k.toNatClampNeg)) (10 ^ (B.pl + g.toNatClampNeg)) B.wy * 10 ^ (B.pl + g.toNatClampNeg)) (p.toInt * 10 ^ k.toNatClampNeg) B.wy - aloneZ B.e B.L B.wy j)))) else .inr eIA)) := by
  repeat' first | (refine okA_spB (by simp) ?_; intro i hi) | (refine okA_spI (by simp) ?_; intro j hj) | (refine okA_spM (by simp) ?_; intro i B) | (refine okA_if ?_ ?_ <;> intro c9) | (refine okA_if1 ?_ ?_ <;> intro c9) | exact okA_E (by simp) | exact okA_V ⟨_, rfl⟩
theorem ok_bound (S : Nat → sB) (bill p g k : Int32) : okA [eIO, eIA] tI ((spB S bill fun B => if okMD p g k then .inl (some (.int (Int32.ofInt (if B.wy = 4 ∨ B.wy = 5 ∨ B.wy = 6 then cutZ (10 ^ (B.pl + g.toNatClampNeg) + p.toInt * 10 ^ k.toNatClampNeg) (2 * (p.toInt * 10 ^ k.toNatClampNeg)) 3 else cutZ (10 ^ (B.pl + g.toNatClampNeg)) (p.toInt * 10 ^ k.toNatClampNeg) 2)))) else .inr eIA)) := by
  repeat' first | (refine okA_spB (by simp) ?_; intro i hi) | (refine okA_spI (by simp) ?_; intro j hj) | (refine okA_spM (by simp) ?_; intro i B) | (refine okA_if ?_ ?_ <;> intro c9) | (refine okA_if1 ?_ ?_ <;> intro c9) | exact okA_E (by simp) | exact okA_V ⟨_, rfl⟩
theorem ok_isSound (S : Nat → sB) (bill : Int32) : okA [eIO] tI ((spB S bill fun _ => .inl (some (.int 1)))) := by
  repeat' first | (refine okA_spB (by simp) ?_; intro i hi) | (refine okA_spI (by simp) ?_; intro j hj) | (refine okA_spM (by simp) ?_; intro i B) | (refine okA_if ?_ ?_ <;> intro c9) | (refine okA_if1 ?_ ?_ <;> intro c9) | exact okA_E (by simp) | exact okA_V ⟨_, rfl⟩
theorem ok_share {h : aH} {m : Nat} {tt : Nat → Nat} {th : Int32} {S : Nat → sB} (hM : Mod h m tt th S) (bill at9 : Int32) : okA [eIO, eAE] tD ((spB S bill fun B => spI B.n at9 fun j => if totalZ B.e B.n B.L B.wy = 0 then .inr eAE else aDbl (FP.ddiv (FP.l2d (LI (byRestsZ B.e B.n B.L B.wy j))) (FP.l2d (LI (totalZ B.e B.n B.L B.wy)))))) := by
  have hn9 := fun {i : Nat} (hi : i < 3) => hM.n9 hi
  obtain ⟨P, W, C, Z, A, T, al, fx, hM⟩ := hM
  obtain ⟨hm, hP, hW, hC, hZ, hA, hT, hb, hD⟩ := id hM
  refine okA_spB (by simp) ?_
  intro i hi
  refine okA_spI (by simp) ?_
  intro j hj
  have hn99 := hn9 hi
  obtain ⟨⟨V, hV, hVl, hVx⟩, ⟨U, hU, hUl, hUt⟩, hlen, hl, hnd, ⟨hn9, hpl, hwy, hcl⟩, hok, hot⟩ := id (hb i hi)
  have hbd := total_bd (B := S i) hn9 hpl hok
  have hbd2 := rests_bd (B := S i) (j := j) hpl (hok j hj)
  refine okA_if ?_ ?_
  · intro c
    exact okA_E (by simp)
  · intro c
    obtain ⟨n9, e9, hn99⟩ := fl_ddiv hbd2 hbd c
    refine okA_V ⟨_, rfl, ?_⟩
    rw [e9]
    exact fl_cmp hn99
theorem ok_raisedShare {h : aH} {m : Nat} {tt : Nat → Nat} {th : Int32} {S : Nat → sB} (hM : Mod h m tt th S) : okA [eAE] tF ((if cntS S 3 = 0 then .inr eAE else aFlt (FP.fdiv (FP.i2f (Int32.ofInt (rsdS S 3))) (FP.i2f (nI (cntS S 3)))))) := by
  refine okA_if ?_ ?_
  · intro c
    exact okA_E (by simp)
  · intro c
    obtain ⟨h1, r, h2, h3⟩ := shr_bd hM 3 (Nat.le_refl _)
    have h9 := fl_small (a := r) (b := cntS S 3) (by omega) (by omega) c
    rw [h3]
    exact okA_V ⟨_, rfl, h9.2.1, h9.2.2⟩
end Keep
