/-! the reference's writes -/
section MMut
variable {G : gG} {d : Nat} {h : aH} {m P W C Z A T : Nat} {al tt : Nat → Nat} {fx : Nat → List Nat} {th : Int32} {S : Nat → sB}
theorem iL_set {f g : Nat → Nat} {i p : Nat} (hi : i < 3) (hg : g i = p) (ho : ∀ j, j ≠ i → g j = f j) : (iL f).set i (.int (nI p)) = iL g := by
  subst hg
  rcases i with _ | _ | _ | i
  · show [_, _, _] = [_, _, _]
    rw [ho 1 (by decide), ho 2 (by decide)]
  · show [_, _, _] = [_, _, _]
    rw [ho 0 (by decide), ho 2 (by decide)]
  · show [_, _, _] = [_, _, _]
    rw [ho 0 (by decide), ho 1 (by decide)]
  · omega
theorem iL_of {f g : Nat → Nat} (ho : ∀ j, g j = f j) : iL f = iL g := by
  rw [show g = f from funext ho]
theorem iU (S : Nat → sB) {i : Nat} (B : sB) (f : sB → Nat) (e : f B = f (S i)) : (some (10, iL fun k => f (S k)) : Option aC) = some (10, iL fun k => f (upS S i B k)) := by
  rw [iL_of (f := fun k => f (S k)) (g := fun k => f (upS S i B k)) fun j => ?_]
  by_cases c : j = i
  · subst c
    show f (upS S j B j) = f (S j)
    rw [upS_eq, e]
  · show f (upS S i B j) = f (S j)
    rw [upS_ne _ _ c]
theorem iUs (S : Nat → sB) {i p : Nat} (hi : i < 3) (B : sB) (f : sB → Nat) (e : f B = p) : (some (10, (iL fun k => f (S k)).set i (.int (nI p))) : Option aC) = some (10, iL fun k => f (upS S i B k)) := by
  rw [iL_set hi (f := fun k => f (S k)) (g := fun k => f (upS S i B k)) (by show f (upS S i B i) = p; rw [upS_eq, e]) (fun j hj => by show f (upS S i B j) = f (S j); rw [upS_ne _ _ hj])]
theorem ModA.upd {h1 : aH} {t2 : Int32} (hM : ModA h m P W C Z A T al tt fx th S) {i : Nat} (hi : i < 3) {xs : List Nat} {B : sB} (hm2 : h1 m = some (3, mF P W C Z A T t2)) (hP2 : h1 P = some (10, iL fun k => (upS S i B k).pl)) (hW2 : h1 W = some (10, iL fun k => (upS S i B k).wy)) (hC2 : h1 C = some (10, iL fun k => (upS S i B k).cl)) (hZ2 : h1 Z = some (10, iL fun k => (upS S i B k).n)) (hA2 : h1 A = h A) (hT2 : h1 T = h T) (hb2 : MB h1 (al i) (tt i) xs B) (ho : ∀ j, j < 3 → j ≠ i → h1 (al j) = h (al j) ∧ h1 (tt j) = h (tt j) ∧ ∀ y ∈ fx j, h1 y = h y) (hx : ∀ y ∈ xs, (y ≠ P ∧ y ≠ W ∧ y ≠ C ∧ y ≠ Z) ∧ ∀ j, j < 3 → j ≠ i → y ∉ fx j) : ModA h1 m P W C Z A T al tt (fun j => if j = i then xs else fx j) t2 (upS S i B) := by
  obtain ⟨hm, hP, hW, hC, hZ, hA, hT, hb, ⟨d1, d2, d3⟩⟩ := hM
  refine ⟨hm2, hP2, hW2, hC2, hZ2, hA2.trans hA, hT2.trans hT, fun j hj => ?_, d1, fun j hj y hy => ?_, fun j hj k hk hne => ⟨(d3 j hj k hk hne).1, (d3 j hj k hk hne).2.1, fun y hy hz => ?_⟩⟩
  · by_cases c : j = i
    · subst c
      rw [upS_eq]
      simp only [if_true]
      exact hb2
    · rw [upS_ne _ _ c]
      simp only [if_neg c]
      obtain ⟨o1, o2, o3⟩ := ho j hj c
      exact (hb j hj).keep o1 o2 o3
  · by_cases c : j = i
    · simp only [if_pos c] at hy
      exact (hx y hy).1
    · simp only [if_neg c] at hy
      exact d2 j hj y hy
  · by_cases c : j = i
    · subst c
      simp only [if_true] at hz
      simp only [if_neg (Ne.symm hne)] at hy
      exact (hx y hz).2 k hk (Ne.symm hne) hy
    · simp only [if_neg c] at hz
      by_cases c2 : k = i
      · subst c2
        simp only [if_true] at hy
        exact (hx y hy).2 j hj c hz
      · simp only [if_neg c2] at hy
        exact (d3 j hj k hk hne).2.2 y hy hz
/-- where a row of numbers is written, all other cells of the reference stay -/
theorem ModA.row {q : Nat} {v : List Value} (hM : ModA h m P W C Z A T al tt fx th S) (hq : q = P ∨ q = W ∨ q = C ∨ q = Z) {c : aC} (hc : h q = some (10, v)) : aUp h q c m = h m ∧ aUp h q c A = h A ∧ aUp h q c T = h T ∧ ∀ j, j < 3 → aUp h q c (al j) = h (al j) ∧ aUp h q c (tt j) = h (tt j) ∧ ∀ y ∈ fx j, aUp h q c y = h y := by
  obtain ⟨hm, hP, hW, hC, hZ, hA, hT, hb, ⟨d1, d2, d3⟩⟩ := hM
  refine ⟨aUp_ne (kd_ne hm hc (by decide)), aUp_ne (kd_ne hA hc (by decide)), aUp_ne (kd_ne hT hc (by decide)), fun j hj => ?_⟩
  obtain ⟨⟨V, b1, -⟩, ⟨U, b3, -⟩, -⟩ := hb j hj
  refine ⟨aUp_ne (kd_ne b1 hc (by decide)), aUp_ne (kd_ne b3 hc (by decide)), fun y hy => aUp_ne ?_⟩
  obtain ⟨e1, e2, e3, e4⟩ := d2 j hj y hy
  rcases hq with z | z | z | z <;> rw [z] <;> assumption
theorem MB.head {a t : Nat} {xs : List Nat} {B : sB} (hb : MB h a t xs B) {p w : Nat} (hp : p ≤ 3) (hw : w ≤ 6) : MB h a t xs (p, w, B.cl, B.n, B.ls) := by
  obtain ⟨b1, b2, b3, b4, b5, ⟨b6, b7, b8, b9⟩, b10⟩ := hb
  exact ⟨b1, b2, b3, b4, b5, ⟨b6, hp, hw, b9⟩, b10⟩
theorem ModA.xsok (hM : ModA h m P W C Z A T al tt fx th S) {i : Nat} (hi : i < 3) : ∀ y ∈ fx i, (y ≠ P ∧ y ≠ W ∧ y ≠ C ∧ y ≠ Z) ∧ ∀ j, j < 3 → j ≠ i → y ∉ fx j :=
  fun y hy => ⟨hM.2.2.2.2.2.2.2.2.2.1 i hi y hy, fun j hj hne => (hM.2.2.2.2.2.2.2.2.2.2 j hj i hi hne).2.2 y hy⟩
theorem same_fx {fx : Nat → List Nat} {i : Nat} : (fun j => if j = i then fx i else fx j) = fx := by
  funext j
  by_cases c : j = i
  · rw [if_pos c, c]
  · rw [if_neg c]
theorem ModA.putP (hM : ModA h m P W C Z A T al tt fx th S) {i p : Nat} (hi : i < 3) (hp : p ≤ 3) : ModA (aUp h P (10, (iL fun k => (S k).pl).set i (.int (nI p)))) m P W C Z A T al tt fx th (upS S i (p, (S i).wy, (S i).cl, (S i).n, (S i).ls)) := by
  obtain ⟨hm, hP, hW, hC, hZ, hA, hT, hb, ⟨d1, d2, d3⟩⟩ := id hM
  obtain ⟨r1, r2, r3, r4⟩ := hM.row (Or.inl rfl) (c := (10, (iL fun k => (S k).pl).set i (.int (nI p)))) hP
  obtain ⟨o1, o2, o3⟩ := r4 i hi
  have hb2 := ((hb i hi).keep o1 o2 o3).head hp (hb i hi).2.2.2.2.2.1.2.2.1
  have := hM.upd hi (r1.trans hm) ((aUp_eq _ _ _).trans (iUs S hi (p, (S i).wy, (S i).cl, (S i).n, (S i).ls) sB.pl rfl))
    ((aUp_ne (Ne.symm d1.1)).trans (hW.trans (iU S (p, (S i).wy, (S i).cl, (S i).n, (S i).ls) sB.wy rfl)))
    ((aUp_ne (Ne.symm d1.2.1)).trans (hC.trans (iU S (p, (S i).wy, (S i).cl, (S i).n, (S i).ls) sB.cl rfl)))
    ((aUp_ne (Ne.symm d1.2.2.1)).trans (hZ.trans (iU S (p, (S i).wy, (S i).cl, (S i).n, (S i).ls) sB.n rfl)))
    r2 r3 hb2 (fun j hj _ => r4 j hj) (hM.xsok hi)
  rw [same_fx] at this
  exact this
theorem ModA.putW (hM : ModA h m P W C Z A T al tt fx th S) {i p : Nat} (hi : i < 3) (hp : p ≤ 6) : ModA (aUp h W (10, (iL fun k => (S k).wy).set i (.int (nI p)))) m P W C Z A T al tt fx th (upS S i ((S i).pl, p, (S i).cl, (S i).n, (S i).ls)) := by
  obtain ⟨hm, hP, hW, hC, hZ, hA, hT, hb, ⟨d1, d2, d3⟩⟩ := id hM
  obtain ⟨r1, r2, r3, r4⟩ := hM.row (Or.inr (Or.inl rfl)) (c := (10, (iL fun k => (S k).wy).set i (.int (nI p)))) hW
  obtain ⟨o1, o2, o3⟩ := r4 i hi
  have hb2 := ((hb i hi).keep o1 o2 o3).head (hb i hi).2.2.2.2.2.1.2.1 hp
  have := hM.upd hi (r1.trans hm)
    ((aUp_ne d1.1).trans (hP.trans (iU S ((S i).pl, p, (S i).cl, (S i).n, (S i).ls) sB.pl rfl)))
    ((aUp_eq _ _ _).trans (iUs S hi ((S i).pl, p, (S i).cl, (S i).n, (S i).ls) sB.wy rfl))
    ((aUp_ne (Ne.symm d1.2.2.2.1)).trans (hC.trans (iU S ((S i).pl, p, (S i).cl, (S i).n, (S i).ls) sB.cl rfl)))
    ((aUp_ne (Ne.symm d1.2.2.2.2.1)).trans (hZ.trans (iU S ((S i).pl, p, (S i).cl, (S i).n, (S i).ls) sB.n rfl)))
    r2 r3 hb2 (fun j hj _ => r4 j hj) (hM.xsok hi)
  rw [same_fx] at this
  exact this
/-- a bill closed or opened -/
theorem ModA.putC (hM : ModA h m P W C Z A T al tt fx th S) {i p : Nat} (hi : i < 3) (hp : p ≤ 2) {ls : Nat → sL} (hl : ∀ k, k < (S i).n → lnM (ls k) = lnM ((S i).ls k) ∧ (ls k).ok) (hc : p = 0 → ∀ k, k < (S i).n → (ls k).t = 0) (hT9 : ¬ p = 0 → ∃ U, h (tt i) = some (11, U) ∧ U.length = 9 ∧ ∀ k, k < (S i).n → U[k]? = some (.long (ls k).t)) : ModA (aUp h C (10, (iL fun k => (S k).cl).set i (.int (nI p)))) m P W C Z A T al tt fx th (upS S i ((S i).pl, (S i).wy, p, (S i).n, ls)) := by
  obtain ⟨hm, hP, hW, hC, hZ, hA, hT, hb, ⟨d1, d2, d3⟩⟩ := id hM
  obtain ⟨r1, r2, r3, r4⟩ := hM.row (Or.inr (Or.inr (Or.inl rfl))) (c := (10, (iL fun k => (S k).cl).set i (.int (nI p)))) hC
  obtain ⟨o1, o2, o3⟩ := r4 i hi
  have hb2 : MB (aUp h C (10, (iL fun k => (S k).cl).set i (.int (nI p)))) (al i) (tt i) (fx i) ((S i).pl, (S i).wy, p, (S i).n, ls) := by
    obtain ⟨b1, ⟨U, b2, b3, -⟩, b4, b5, b6, ⟨b7, b8, b9, -⟩, b11, -⟩ := (hb i hi).keep o1 o2 o3
    refine ⟨b1, ?_, b4, fun k hk => ?_, b6, ⟨b7, b8, b9, hp⟩, fun k hk => (hl k hk).2, hc⟩
    · by_cases c : p = 0
      · exact ⟨U, b2, b3, fun z => absurd c z⟩
      · obtain ⟨U2, u1, u2, u3⟩ := hT9 c
        exact ⟨U2, o2.trans u1, u2, fun _ => u3⟩
    · rw [b5 k hk]
      show _ = some (10, lnM (ls k))
      rw [(hl k (by omega)).1]
  have := hM.upd hi (r1.trans hm)
    ((aUp_ne d1.2.1).trans (hP.trans (iU S ((S i).pl, (S i).wy, p, (S i).n, ls) sB.pl rfl)))
    ((aUp_ne d1.2.2.2.1).trans (hW.trans (iU S ((S i).pl, (S i).wy, p, (S i).n, ls) sB.wy rfl)))
    ((aUp_eq _ _ _).trans (iUs S hi ((S i).pl, (S i).wy, p, (S i).n, ls) sB.cl rfl))
    ((aUp_ne (Ne.symm d1.2.2.2.2.2)).trans (hZ.trans (iU S ((S i).pl, (S i).wy, p, (S i).n, ls) sB.n rfl)))
    r2 r3 hb2 (fun j hj _ => r4 j hj) (hM.xsok hi)
  rw [same_fx] at this
  exact this
theorem upS_self (S : Nat → sB) (i : Nat) : upS S i (S i) = S := by
  funext j
  by_cases c : j = i
  · rw [c, upS_eq]
  · rw [upS_ne _ _ c]
/-- told amounts written -/
theorem ModA.putT (hM : ModA h m P W C Z A T al tt fx th S) {i : Nat} (hi : i < 3) {U : List Value} (hU : U.length = 9) {ls : Nat → sL} (hl : ∀ k, k < (S i).n → lnM (ls k) = lnM ((S i).ls k) ∧ (ls k).ok) (hc : (S i).cl = 0 → ∀ k, k < (S i).n → (ls k).t = 0) (hT9 : ¬ (S i).cl = 0 → ∀ k, k < (S i).n → U[k]? = some (.long (ls k).t)) : ModA (aUp h (tt i) (11, U)) m P W C Z A T al tt fx th (upS S i ((S i).pl, (S i).wy, (S i).cl, (S i).n, ls)) := by
  obtain ⟨hm, hP, hW, hC, hZ, hA, hT, hb, ⟨d1, d2, d3⟩⟩ := id hM
  obtain ⟨⟨V, b0, b1⟩, ⟨U0, b2, b3⟩, b4, b5, b6, b7, b8, b9⟩ := id (hb i hi)
  have hb2 : MB (aUp h (tt i) (11, U)) (al i) (tt i) (fx i) ((S i).pl, (S i).wy, (S i).cl, (S i).n, ls) := by
    refine ⟨⟨V, (aUp_ne (kd_ne b0 b2 (by decide))).trans b0, b1⟩, ⟨U, aUp_eq _ _ _, hU, hT9⟩, b4, fun k hk => ?_, b6, b7, fun k hk => (hl k hk).2, hc⟩
    rw [aUp_ne (kd_ne (b5 k hk) b2 (by decide)), b5 k hk]
    show _ = some (10, lnM (ls k))
    rw [(hl k (by omega)).1]
  have := hM.upd hi ((aUp_ne (kd_ne hm b2 (by decide))).trans hm)
    ((aUp_ne (kd_ne hP b2 (by decide))).trans (hP.trans (iU S ((S i).pl, (S i).wy, (S i).cl, (S i).n, ls) sB.pl rfl)))
    ((aUp_ne (kd_ne hW b2 (by decide))).trans (hW.trans (iU S ((S i).pl, (S i).wy, (S i).cl, (S i).n, ls) sB.wy rfl)))
    ((aUp_ne (kd_ne hC b2 (by decide))).trans (hC.trans (iU S ((S i).pl, (S i).wy, (S i).cl, (S i).n, ls) sB.cl rfl)))
    ((aUp_ne (kd_ne hZ b2 (by decide))).trans (hZ.trans (iU S ((S i).pl, (S i).wy, (S i).cl, (S i).n, ls) sB.n rfl)))
    (aUp_ne (kd_ne hA b2 (by decide))) (aUp_ne (kd_ne hT b2 (by decide))) hb2 (fun j hj hne => by
      obtain ⟨⟨V, c0, -⟩, ⟨U9, c2, -⟩, c4, c5, -⟩ := hb j hj
      refine ⟨aUp_ne (kd_ne c0 b2 (by decide)), aUp_ne (d3 i hi j hj (Ne.symm hne)).2.1, fun y hy => ?_⟩
      obtain ⟨k, hk, rfl⟩ := List.mem_iff_getElem.mp hy
      exact aUp_ne (kd_ne (c5 k hk) b2 (by decide))) (hM.xsok hi)
  rw [same_fx] at this
  exact this
/-- a line's row written -/
theorem ModA.putR (hM : ModA h m P W C Z A T al tt fx th S) {i j : Nat} (hi : i < 3) (hj : j < (fx i).length) {l : sL} (ho : l.ok) (ht : l.t = ((S i).ls j).t) : ModA (aUp h ((fx i)[j]) (10, lnM l)) m P W C Z A T al tt fx th (upS S i ((S i).pl, (S i).wy, (S i).cl, (S i).n, putL (S i).ls j l)) := by
  obtain ⟨hm, hP, hW, hC, hZ, hA, hT, hb, ⟨d1, d2, d3⟩⟩ := id hM
  obtain ⟨⟨V, b0, b1⟩, ⟨U0, b2, b3, b3'⟩, b4, b5, b6, b7, b8, b9⟩ := id (hb i hi)
  have hr := b5 j hj
  obtain ⟨e1, e2, e3, e4⟩ := d2 i hi _ (List.getElem_mem hj)
  have htt : ∀ k, (putL (S i).ls j l k).t = ((S i).ls k).t := by
    intro k
    by_cases c : k = j
    · show (if k = j then l else (S i).ls k).t = _
      rw [if_pos c, ht, c]
    · show (if k = j then l else (S i).ls k).t = _
      rw [if_neg c]
  have hb2 : MB (aUp h ((fx i)[j]) (10, lnM l)) (al i) (tt i) (fx i) ((S i).pl, (S i).wy, (S i).cl, (S i).n, putL (S i).ls j l) := by
    refine ⟨⟨V, (aUp_ne (kd_ne b0 hr (by decide))).trans b0, b1⟩, ⟨U0, (aUp_ne (kd_ne b2 hr (by decide))).trans b2, b3, fun z k hk => ?_⟩, b4, fun k hk => ?_, b6, b7, fun k hk => ?_, fun z k hk => ?_⟩
    · rw [b3' z k hk]
      exact congrArg (fun z => some (Value.long z)) (htt k).symm
    · show _ = some (10, lnM (if k = j then l else (S i).ls k))
      by_cases c : k = j
      · subst c
        rw [aUp_eq, if_pos rfl]
      · rw [aUp_ne (nd_ne b6 hj hk c), if_neg c, b5 k hk]
    · show (if k = j then l else (S i).ls k).ok
      split
      · exact ho
      · exact b8 k hk
    · exact (htt k).trans (b9 z k hk)
  have := hM.upd hi ((aUp_ne (kd_ne hm hr (by decide))).trans hm)
    ((aUp_ne (Ne.symm e1)).trans (hP.trans (iU S ((S i).pl, (S i).wy, (S i).cl, (S i).n, putL (S i).ls j l) sB.pl rfl)))
    ((aUp_ne (Ne.symm e2)).trans (hW.trans (iU S ((S i).pl, (S i).wy, (S i).cl, (S i).n, putL (S i).ls j l) sB.wy rfl)))
    ((aUp_ne (Ne.symm e3)).trans (hC.trans (iU S ((S i).pl, (S i).wy, (S i).cl, (S i).n, putL (S i).ls j l) sB.cl rfl)))
    ((aUp_ne (Ne.symm e4)).trans (hZ.trans (iU S ((S i).pl, (S i).wy, (S i).cl, (S i).n, putL (S i).ls j l) sB.n rfl)))
    (aUp_ne (kd_ne hA hr (by decide))) (aUp_ne (kd_ne hT hr (by decide))) hb2 (fun k hk hne => by
      obtain ⟨⟨V, c0, -⟩, ⟨U9, c2, -⟩, c4, c5, -⟩ := hb k hk
      refine ⟨aUp_ne (kd_ne c0 hr (by decide)), aUp_ne (kd_ne c2 hr (by decide)), fun y hy => aUp_ne fun z => ?_⟩
      exact (d3 k hk i hi hne).2.2 _ (List.getElem_mem hj) (z ▸ hy)) (hM.xsok hi)
  rw [same_fx] at this
  exact this
end MMut
