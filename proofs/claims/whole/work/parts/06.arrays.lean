/-! one lemma an instruction: arrays, casts, static fields -/
section Arrays
variable {G : gG} {mi : MI} {d mc ms : Nat} {K : aR → aH → Prop} {pc : Nat}
/-- what a read of an array finds: its kind, its elements -/
def aArr (h : aH) (a : Nat) (k : Nat → List Value → Prop) : Prop := match h a with
  | some (c, vs) => 10 ≤ c ∧ k c vs
  | none => False
theorem aArr.of {h : aH} {a : Nat} {k : Nat → List Value → Prop} (hk : aArr h a k) : ∃ c vs, h a = some (c, vs) ∧ 10 ≤ c ∧ k c vs := by
  unfold aArr at hk
  split at hk
  · next c vs e => exact ⟨c, vs, e, hk⟩
  · exact hk.elim
theorem aArr.mk {h : aH} {a c : Nat} {k : Nat → List Value → Prop} {vs : List Value} (e : h a = some (c, vs)) (hc : 10 ≤ c) (hk : k c vs) : aArr h a k := by
  unfold aArr
  rw [e]
  exact ⟨hc, hk⟩
theorem acR_of {U : State} {H : Heap} {q k : Nat} {vs : List Value} (h : acAt G U H q (k, vs)) (hk : 10 ≤ k) : acR G U H q k vs := by
  unfold acAt at h
  rw [if_neg (by show ¬ k < 10; omega)] at h
  exact h
theorem acR_to {U : State} {H : Heap} {q k : Nat} {vs : List Value} (hk : 10 ≤ k) (h : acR G U H q k vs) : acAt G U H q (k, vs) := by
  unfold acAt
  rw [if_neg (by show ¬ k < 10; omega)]
  exact h
theorem slots_at {cell : Cell} {vs : List Value} (h : cell.slots.toList = vs) {i : Nat} {v : Value} (hv : vs[i]? = some v) : cell.slots[i]? = some v := by
  rw [← Array.getElem?_toList, h]; exact hv
theorem slots_size {cell : Cell} {vs : List Value} (h : cell.slots.toList = vs) : cell.slots.size = vs.length := by rw [← h, Array.length_toList]
theorem aSl_len {k : Nat} {cell : Cell} {vs : List Value} (h : aSl k cell vs) : cell.slots.size.toInt32 = nI vs.length := by
  by_cases c : k = 21
  · obtain ⟨rfl, e⟩ := h.2 c
    exact e
  · rw [slots_size (h.1 c)]
    rfl
theorem setSlot_list {cell : Cell} {vs : List Value} (h : cell.slots.toList = vs) (i : Nat) (v : Value) : (cell.setSlot i v).slots.toList = vs.set i v := by
  simp only [Cell.setSlot, Array.toList_setIfInBounds, h]
theorem isArr_set {U : State} {cell : Cell} {ty : FieldType} (h : U.isArrayOf cell ty) (i : Nat) (v : Value) : U.isArrayOf (cell.setSlot i v) ty := h
/-- an index in its row -/
def aIn (i : Int32) (n : Nat) : Prop := ¬ i < 0 ∧ i.toNatClampNeg < n
theorem aIn_nI {j n : Nat} (h : j < n) (hn : n < 2 ^ 31) : aIn (nI j) n := ⟨nI_pos (by omega), by rw [nI_clamp (by omega)]; exact h⟩
/-! element loads -/
def o_ald (ks9 : List Nat) (k : aP) : aP := fun kc ks L st h => match st with
  | .int i :: .ref a :: r => aArr h a (fun c vs => c ∈ ks9 ∧ ¬ i < 0 ∧ aVal vs i.toNatClampNeg (fun v => k kc ks L (v :: r) h))
  | _ => False
theorem s_ald {k : aP} {ks9 : List Nat} {ins : Instr} (hrow : (ins = .iaload ∧ ∀ c ∈ ks9, aTy[c - 10]? = some .int) ∨ (ins = .laload ∧ ∀ c ∈ ks9, aTy[c - 10]? = some .long) ∨ (ins = .daload ∧ ∀ c ∈ ks9, aTy[c - 10]? = some .double) ∨ (ins = .aaload ∧ ∀ c ∈ ks9, ∃ t, aTy[c - 10]? = some t ∧ t.isReference = true)) (dd : decode (mB mi) pc = .ok (ins, 1)) (n : aSo G mi d mc ms K k (pc + 1)) : aSo G mi d mc ms K (o_ald ks9 k) pc := by
  intro kc ks L st h hk p e R s m args below meth c Q M F H locs cells slots ls hR hl h1 h2 hL
  unfold o_ald at hk
  split at hk
  · next i a r =>
    obtain ⟨c9, vs, ha, hc, hin, hi, hk⟩ := hk.of
    obtain ⟨v, hv, hk⟩ := hk.of
    obtain ⟨ty, cell, e1, e2, e3, e4, e5, -⟩ := acR_of (hR.2.2 a _ ha).1 hc
    have e5 : cell.slots.toList = vs := e5.1 (fun z => by obtain ⟨w, -⟩ := e5.2 z; rw [w, List.getElem?_nil] at hv; cases hv)
    have hlt : i.toNatClampNeg < vs.length := (List.getElem?_eq_some_iff.mp hv).1
    have hb : ¬ (i < 0 ∨ cell.slots.size ≤ i.toNatClampNeg) := fun z => z.elim hi (fun z => by rw [slots_size e5] at z; omega)
    have hk' := n _ _ _ _ _ hk p e R s m args below meth c Q M F H locs cells slots ls hR hl h1 h2 hL
    rcases hrow with ⟨rfl, ht⟩ | ⟨rfl, ht⟩ | ⟨rfl, ht⟩ | ⟨rfl, ht⟩
    · cases e1.symm.trans (ht c9 hin)
      exact W.iald M.1 M.2.1 e2 e3 e4 hb (slots_at e5 hv) rfl rfl dd hk'
    · cases e1.symm.trans (ht c9 hin)
      exact W.lald M.1 M.2.1 e2 e3 e4 hb (slots_at e5 hv) rfl rfl dd hk'
    · cases e1.symm.trans (ht c9 hin)
      exact W.dald M.1 M.2.1 e2 e3 e4 hb (slots_at e5 hv) rfl rfl dd hk'
    · obtain ⟨t, ht1, ht2⟩ := ht c9 hin
      cases e1.symm.trans ht1
      exact W.aald M.1 M.2.1 e2 e3 ht2 e4 hb (slots_at e5 hv) rfl rfl dd hk'
  · exact hk.elim
/-! element stores of numbers -/
theorem put_arr {h : aH} {H H1 : Heap} {U : State} {a c : Nat} {vs : List Value} {ty : FieldType} {cell : Cell} {i : Nat} {v : Value} (hR : RelH G U h H) (ha : h a = some (c, vs)) (hc : 10 ≤ c) (hc2 : c < 20) (e1 : aTy[c - 10]? = some ty) (e3 : U.isArrayOf cell ty) (e4 : cell.vm ≠ .unknown) (e5 : cell.slots.toList = vs) (e6 : cell.cls = gA G c ∧ cell.vm = .none) (g1 : H1[a]? = some (cell.setSlot i v)) (g2 : H1.size = H.size) (g3 : ∀ q, q ≠ a → H1[q]? = H[q]?) : RelH G U (aUp h a (c, vs.set i v)) H1 :=
  hR.put (acR_to hc ⟨ty, _, e1, g1, isArr_set e3 i v, e4, ⟨fun _ => setSlot_list e5 i v, fun z => absurd z (by omega)⟩, fun _ => e6⟩) g2 g3 ((hR.2.2 a _ ha).2 hc2)
theorem locs_add {a i : Nat} {locs : List Loc} {b : Nat} (hl : ∀ q ∈ locs, b ≤ q.base) (ha : b ≤ a) : ∀ q ∈ locs ++ [(⟨a, i⟩ : Loc)], b ≤ q.base := fun q hq => (List.mem_append.mp hq).elim (hl q) (fun z => by rw [List.mem_singleton.mp z]; exact ha)
def o_iast (k : aP) : aP := fun kc ks L st h => match st with
  | .int x :: .int i :: .ref a :: r => aArr h a (fun c vs => c = 10 ∧ aIn i vs.length ∧ k kc ks L r (aUp h a (c, vs.set i.toNatClampNeg (.int x))))
  | _ => False
theorem s_iast {k : aP} (dd : decode (mB mi) pc = .ok (.iastore, 1)) (n : aSo G mi d mc ms K k (pc + 1)) : aSo G mi d mc ms K (o_iast k) pc := by
  intro kc ks L st h hk p e R s m args below meth c Q M F H locs cells slots ls hR hl h1 h2 hL
  unfold o_iast at hk
  split at hk
  · next x i a r =>
    obtain ⟨c9, vs, ha, hc, rfl, hi, hk⟩ := hk.of
    obtain ⟨ty, cell, e1, e2, e3, e4, e5, e6⟩ := acR_of (hR.2.2 a _ ha).1 hc
    have e5 := e5.1 (by decide)
    cases (e1.symm.trans (rfl : aTy[10 - 10]? = some .int))
    exact W.iast M.1 M.2.1 e2 e3 e4 (fun z => z.elim hi.1 (fun z => by rw [slots_size e5] at z; have := hi.2; omega)) rfl rfl dd (fun H1 g1 g2 g3 => n _ _ _ _ _ hk p e R s m args below meth c Q M F H1 _ cells slots ls (put_arr hR ha hc (by decide) e1 e3 e4 e5 (e6 (by decide)) g1 g2 g3) (locs_add hl ((hR.2.2 a _ ha).2 (by show (10 : Nat) < 20; decide))) h1 h2 hL)
  · exact hk.elim
def o_last (k : aP) : aP := fun kc ks L st h => match st with
  | .long x :: .int i :: .ref a :: r => aArr h a (fun c vs => c = 11 ∧ aIn i vs.length ∧ k kc ks L r (aUp h a (c, vs.set i.toNatClampNeg (.long x))))
  | _ => False
theorem s_last {k : aP} (dd : decode (mB mi) pc = .ok (.lastore, 1)) (n : aSo G mi d mc ms K k (pc + 1)) : aSo G mi d mc ms K (o_last k) pc := by
  intro kc ks L st h hk p e R s m args below meth c Q M F H locs cells slots ls hR hl h1 h2 hL
  unfold o_last at hk
  split at hk
  · next x i a r =>
    obtain ⟨c9, vs, ha, hc, rfl, hi, hk⟩ := hk.of
    obtain ⟨ty, cell, e1, e2, e3, e4, e5, e6⟩ := acR_of (hR.2.2 a _ ha).1 hc
    have e5 := e5.1 (by decide)
    cases (e1.symm.trans (rfl : aTy[11 - 10]? = some .long))
    exact W.last M.1 M.2.1 e2 e3 e4 (fun z => z.elim hi.1 (fun z => by rw [slots_size e5] at z; have := hi.2; omega)) rfl rfl dd (fun H1 g1 g2 g3 => n _ _ _ _ _ hk p e R s m args below meth c Q M F H1 _ cells slots ls (put_arr hR ha hc (by decide) e1 e3 e4 e5 (e6 (by decide)) g1 g2 g3) (locs_add hl ((hR.2.2 a _ ha).2 (by show (11 : Nat) < 20; decide))) h1 h2 hL)
  · exact hk.elim
def o_dast (k : aP) : aP := fun kc ks L st h => match st with
  | .double x :: .int i :: .ref a :: r => aArr h a (fun c vs => c = 12 ∧ aIn i vs.length ∧ k kc ks L r (aUp h a (c, vs.set i.toNatClampNeg (.double x))))
  | _ => False
theorem s_dast {k : aP} (dd : decode (mB mi) pc = .ok (.dastore, 1)) (n : aSo G mi d mc ms K k (pc + 1)) : aSo G mi d mc ms K (o_dast k) pc := by
  intro kc ks L st h hk p e R s m args below meth c Q M F H locs cells slots ls hR hl h1 h2 hL
  unfold o_dast at hk
  split at hk
  · next x i a r =>
    obtain ⟨c9, vs, ha, hc, rfl, hi, hk⟩ := hk.of
    obtain ⟨ty, cell, e1, e2, e3, e4, e5, e6⟩ := acR_of (hR.2.2 a _ ha).1 hc
    have e5 := e5.1 (by decide)
    cases (e1.symm.trans (rfl : aTy[12 - 10]? = some .double))
    exact W.dast M.1 M.2.1 e2 e3 e4 (fun z => z.elim hi.1 (fun z => by rw [slots_size e5] at z; have := hi.2; omega)) rfl rfl dd (fun H1 g1 g2 g3 => n _ _ _ _ _ hk p e R s m args below meth c Q M F H1 _ cells slots ls (put_arr hR ha hc (by decide) e1 e3 e4 e5 (e6 (by decide)) g1 g2 g3) (locs_add hl ((hR.2.2 a _ ha).2 (by show (12 : Nat) < 20; decide))) h1 h2 hL)
  · exact hk.elim
/-! element stores of references -/
/-- array kinds and what may be stored in them -/
def aAsg (c c2 : Nat) : Bool := (c == 13 && c2 == 1) || (c == 14 && c2 == 2) || (c == 15 && c2 == 10) || (c == 16 && c2 == 15) || (c == 17 && c2 == 11)
theorem asg_ok {U : State} {H : Heap} {v c c2 : Nat} {vs : List Value} (hSF : SF G U) (h : aAsg c c2 = true) (hv : acAt G U H v (c2, vs)) :
    ∃ (kA : Class) (comp : ClassId) (ty : FieldType) (kc kv : Class) (cv : Cell), aTy[c - 10]? = some ty ∧ 10 ≤ c ∧ c < 20 ∧ U.vm.classes[gA G c]? = some kA ∧ kA.kind = .array comp ty ∧ ty.isReference = true ∧ U.vm.classes[comp]? = some kc ∧ H[v]? = some cv ∧ (∀ q, cv.vm ≠ .statics q) ∧ U.vm.classes[cv.cls]? = some kv ∧ U.vm.assignable cv.cls comp = true := by
  have hobj : ∀ (r : vw_C), c2 < 10 → aCl[c2]? = some r → ∃ cv : Cell, H[v]? = some cv ∧ (∀ q, cv.vm ≠ .statics q) ∧ U.vm.findClass r.1 = some cv.cls := by
    intro r hlt hr
    unfold acAt at hv
    rw [if_pos (by show c2 < 10; exact hlt)] at hv
    obtain ⟨r8, e8, e7, cell, q1, q2, q3, q4⟩ := hv
    cases (show r8 = r from Option.some.inj (e8.symm.trans hr))
    exact ⟨cell, q1, (fun q z => by rw [q3] at z; cases z), by rw [q2]; exact (hSF.1.1 c2 _ hr).2.1⟩
  have harr : 10 ≤ c2 → c2 < 20 → ∃ cv : Cell, H[v]? = some cv ∧ (∀ q, cv.vm ≠ .statics q) ∧ cv.cls = gA G c2 := by
    intro g1 g2
    obtain ⟨ty, cell, e1, e2, e3, e4, e5, e6⟩ := acR_of hv g1
    exact ⟨cell, e2, (fun q z => by rw [(e6 g2).2] at z; cases z), (e6 g2).1⟩
  have htab : ∀ (k : Nat) (ty : FieldType), aTy[k]? = some ty → k < 10 → ty.isReference = true → ∃ (kA : Class) (comp : ClassId), U.vm.classes[gA G (k + 10)]? = some kA ∧ kA.kind = .array comp ty ∧ U.vm.findClass (aRn ty) = some comp := by
    intro k ty hk hlt hr
    obtain ⟨kA, comp, a1, a2, -, a4⟩ := hSF.2.1 k ty hk hlt
    exact ⟨kA, comp, a1, a2, a4 hr⟩
  have hcl : ∀ {x : String} {y : ClassId}, U.vm.findClass x = some y → ∃ k : Class, U.vm.classes[y]? = some k := fun hx => by obtain ⟨k, hk, -⟩ := Vm.findClass_spec hx; exact ⟨k, hk⟩
  simp only [aAsg, Bool.or_eq_true, Bool.and_eq_true, beq_iff_eq] at h
  rcases h with (((⟨rfl, rfl⟩ | ⟨rfl, rfl⟩) | ⟨rfl, rfl⟩) | ⟨rfl, rfl⟩) | ⟨rfl, rfl⟩
  · obtain ⟨kA, comp, t1, t2, t3⟩ := htab 3 _ rfl (by decide) rfl
    obtain ⟨cv, v1, v2, v3⟩ := hobj _ (by decide) rfl
    obtain ⟨kc, hkc⟩ := hcl t3
    have e : comp = cv.cls := Option.some.inj (t3.symm.trans v3)
    subst e
    exact ⟨kA, _, _, kc, kc, cv, rfl, by decide, by decide, t1, t2, rfl, hkc, v1, v2, hkc, va_asg _ _⟩
  · obtain ⟨kA, comp, t1, t2, t3⟩ := htab 4 _ rfl (by decide) rfl
    obtain ⟨cv, v1, v2, v3⟩ := hobj _ (by decide) rfl
    obtain ⟨kc, hkc⟩ := hcl t3
    obtain ⟨kv, hkv⟩ := hcl v3
    obtain ⟨c3, c4, hc3, hc4, hasg⟩ := Cond.castable_spec (aNw_use (w := .castable "Billwright$Line" "java/lang/Object") (A := #[]) rfl (hSF.2.2.1 _ (by decide +kernel) rfl))
    cases hc3.symm.trans v3
    cases hc4.symm.trans t3
    exact ⟨kA, _, _, kc, kv, cv, rfl, by decide, by decide, t1, t2, rfl, hkc, v1, v2, hkv, hasg⟩
  · obtain ⟨kA, comp, t1, t2, t3⟩ := htab 5 _ rfl (by decide) rfl
    obtain ⟨cv, v1, v2, v3⟩ := harr (by decide) (by decide)
    obtain ⟨kc, hkc⟩ := hcl t3
    obtain ⟨kB, compB, -, -, s3, -⟩ := hSF.2.1 0 _ rfl (by decide)
    have e : comp = cv.cls := by rw [v3]; exact Option.some.inj (t3.symm.trans s3)
    subst e
    exact ⟨kA, _, _, kc, kc, cv, rfl, by decide, by decide, t1, t2, rfl, hkc, v1, v2, hkc, va_asg _ _⟩
  · obtain ⟨kA, comp, t1, t2, t3⟩ := htab 6 _ rfl (by decide) rfl
    obtain ⟨cv, v1, v2, v3⟩ := harr (by decide) (by decide)
    obtain ⟨kc, hkc⟩ := hcl t3
    obtain ⟨kB, compB, -, -, s3, -⟩ := hSF.2.1 5 _ rfl (by decide)
    have e : comp = cv.cls := by rw [v3]; exact Option.some.inj (t3.symm.trans s3)
    subst e
    exact ⟨kA, _, _, kc, kc, cv, rfl, by decide, by decide, t1, t2, rfl, hkc, v1, v2, hkc, va_asg _ _⟩
  · obtain ⟨kA, comp, t1, t2, t3⟩ := htab 7 _ rfl (by decide) rfl
    obtain ⟨cv, v1, v2, v3⟩ := harr (by decide) (by decide)
    obtain ⟨kc, hkc⟩ := hcl t3
    obtain ⟨kB, compB, -, -, s3, -⟩ := hSF.2.1 1 _ rfl (by decide)
    have e : comp = cv.cls := by rw [v3]; exact Option.some.inj (t3.symm.trans s3)
    subst e
    exact ⟨kA, _, _, kc, kc, cv, rfl, by decide, by decide, t1, t2, rfl, hkc, v1, v2, hkc, va_asg _ _⟩
/-- the kind of what lies at an address -/
def aKind (h : aH) (v : Nat) (k : Nat → Prop) : Prop := match h v with
  | some (c, _) => k c
  | none => False
theorem aKind.of {h : aH} {v : Nat} {k : Nat → Prop} (hk : aKind h v k) : ∃ c vs, h v = some (c, vs) ∧ k c := by
  unfold aKind at hk
  split at hk
  · next c vs e => exact ⟨c, vs, e, hk⟩
  · exact hk.elim
theorem aKind.mk {h : aH} {v c : Nat} {vs : List Value} {k : Nat → Prop} (e : h v = some (c, vs)) (hk : k c) : aKind h v k := by
  unfold aKind
  rw [e]
  exact hk
def o_aast (k : aP) : aP := fun kc ks L st h => match st with
  | .ref v :: .int i :: .ref a :: r => aArr h a (fun c vs => aKind h v (fun c2 => aAsg c c2 = true) ∧ aIn i vs.length ∧ k kc ks L r (aUp h a (c, vs.set i.toNatClampNeg (.ref v))))
  | .null :: .int i :: .ref a :: r => aArr h a (fun c vs => c = 14 ∧ aIn i vs.length ∧ k kc ks L r (aUp h a (c, vs.set i.toNatClampNeg .null)))
  | _ => False
theorem s_aast {k : aP} (dd : decode (mB mi) pc = .ok (.aastore, 1)) (n : aSo G mi d mc ms K k (pc + 1)) : aSo G mi d mc ms K (o_aast k) pc := by
  intro kc ks L st h hk p e R s m args below meth c Q M F H locs cells slots ls hR hl h1 h2 hL
  have hSF : SF G s := M.2.2.2.2.2.2.2.2.2.1
  unfold o_aast at hk
  split at hk
  · next v i a r =>
    obtain ⟨c9, vs, ha, hc, hv9, hi, hk⟩ := hk.of
    obtain ⟨c2, vs2, hv, hasg⟩ := hv9.of
    obtain ⟨kA, comp, ty9, kc9, kv, cv, f1, f2, f3, f4, f5, f6, f7, f8, f9, f10, f11⟩ := asg_ok hSF hasg (hR.2.2 v _ hv).1
    obtain ⟨ty, cell, e1, e2, e3, e4, e5, e6⟩ := acR_of (hR.2.2 a _ ha).1 hc
    have e5 := e5.1 (by omega)
    cases e1.symm.trans f1
    exact W.aast M.1 M.2.1 e2 (fun q z => by rw [(e6 f3).2] at z; cases z) e4 (by rw [(e6 f3).1]; exact f4) f5 f6 f7 ⟨hi.1, by rw [slots_size e5]; exact hi.2⟩ f8 f9 f10 f11 rfl rfl dd (fun H1 g1 g2 g3 => n _ _ _ _ _ hk p e R s m args below meth c Q M F H1 _ cells slots ls (put_arr hR ha hc f3 e1 e3 e4 e5 (e6 f3) g1 g2 g3) (locs_add hl ((hR.2.2 a _ ha).2 f3)) h1 h2 hL)
  · next i a r =>
    obtain ⟨c9, vs, ha, hc, rfl, hi, hk⟩ := hk.of
    obtain ⟨ty, cell, e1, e2, e3, e4, e5, e6⟩ := acR_of (hR.2.2 a _ ha).1 hc
    have e5 := e5.1 (by decide)
    cases (e1.symm.trans (rfl : aTy[14 - 10]? = some (.object "java/lang/Object")))
    exact va_WaastN M.1 M.2.1 e2 e3 e4 (fun z => z.elim hi.1 (fun z => by rw [slots_size e5] at z; have := hi.2; omega)) rfl rfl dd (fun H1 g1 g2 g3 => n _ _ _ _ _ hk p e R s m args below meth c Q M F H1 _ cells slots ls (put_arr hR ha hc (by decide) e1 e3 e4 e5 (e6 (by decide)) g1 g2 g3) (locs_add hl ((hR.2.2 a _ ha).2 (by show (14 : Nat) < 20; decide))) h1 h2 hL)
  · exact hk.elim
/-! length -/
def o_alen (k : aP) : aP := fun kc ks L st h => match st with
  | .ref a :: r => aArr h a (fun _ vs => k kc ks L (.int (nI vs.length) :: r) h)
  | _ => False
theorem s_alen {k : aP} (dd : decode (mB mi) pc = .ok (.arraylength, 1)) (n : aSo G mi d mc ms K k (pc + 1)) : aSo G mi d mc ms K (o_alen k) pc := by
  intro kc ks L st h hk p e R s m args below meth c Q M F H locs cells slots ls hR hl h1 h2 hL
  unfold o_alen at hk
  split at hk
  · next a r =>
    obtain ⟨c9, vs, ha, hc, hk⟩ := hk.of
    obtain ⟨ty, cell, e1, e2, e3, e4, e5, e6⟩ := acR_of (hR.2.2 a _ ha).1 hc
    exact W.alen M.1 M.2.1 e2 e3 (by rw [aSl_len e5]) rfl rfl dd (n _ _ _ _ _ hk p e R s m args below meth c Q M F H locs cells slots ls hR hl h1 h2 hL)
  · exact hk.elim
/-! new arrays -/
theorem new_arr {H1 : Heap} {U : State} {c : Nat} {ty : FieldType} {N : Nat} {v : Value} {cA : ClassId} {kA : Class} {comp : ClassId} (hSF : SF G U) (hc : 10 ≤ c) (hc2 : c < 20) (e1 : aTy[c - 10]? = some ty) (h1 : U.vm.findClass ("[" ++ ty.toString) = some cA) (h2 : U.vm.classes[cA]? = some kA) (h3 : kA.kind = .array comp ty) {q : Nat} (hq : H1[q]? = some { cls := cA, slots := Array.replicate N v, vm := .none }) : acAt G U H1 q (c, List.replicate N v) := by
  obtain ⟨kB, comp2, a1, a2, a3, -⟩ := hSF.2.1 (c - 10) ty e1 (by omega)
  rw [show c - 10 + 10 = c by omega] at a3
  refine acR_to hc ⟨ty, _, e1, hq, ⟨(fun z w => by cases w), kA, h2, comp, h3⟩, (fun z => by cases z), ⟨fun _ => by simp, fun z => absurd z (by omega)⟩, fun _ => ⟨?_, rfl⟩⟩
  exact Option.some.inj (h1.symm.trans a3)
def o_newa (c : Nat) (v : Value) (k : aP) : aP := fun kc ks L st h => match st with
  | .int i :: r => ¬ i < 0 ∧ i.toNatClampNeg ≤ 1000 ∧ 1 ≤ kc ∧ i.toNatClampNeg ≤ ks ∧ ∀ q : Nat, h q = none → k (kc - 1) (ks - i.toNatClampNeg) L (.ref q :: r) (aUp h q (c, List.replicate i.toNatClampNeg v))
  | _ => False
theorem s_newa {k : aP} {c : Nat} (at9 : ArrayType) {v : Value} (ht : (c = 10 ∧ at9 = .int ∧ v = .int 0) ∨ (c = 11 ∧ at9 = .long ∧ v = .long 0) ∨ (c = 12 ∧ at9 = .double ∧ v = .double 0)) (hw : Cond.arrayClass (newarray.typeOf at9) ∈ aW) (dd : decode (mB mi) pc = .ok (.newarray at9, 2)) (n : aSo G mi d mc ms K k (pc + 2)) : aSo G mi d mc ms K (o_newa c v k) pc := by
  intro kc ks L st h hk p e R s m args below meth c9 Q M F H locs cells slots ls hR hl h1 h2 hL
  have hSF : SF G s := M.2.2.2.2.2.2.2.2.2.1
  have hroom := M.2.2.2.2.2.2.2.2.2.2.1
  unfold o_newa at hk
  split at hk
  · next i r =>
    obtain ⟨hi, hi2, hk1, hk2, hk⟩ := hk
    have hcc : 10 ≤ c ∧ c < 20 ∧ aTy[c - 10]? = some (newarray.typeOf at9) ∧ defaultValue (newarray.typeOf at9) = v ∧ componentBytes (newarray.typeOf at9) ≤ 8 := by
      rcases ht with ⟨rfl, rfl, rfl⟩ | ⟨rfl, rfl, rfl⟩ | ⟨rfl, rfl, rfl⟩ <;> exact ⟨by decide, by decide, rfl, rfl, by decide⟩
    obtain ⟨c1, c2, c3, c4, c5⟩ := hcc
    have hbytes : i.toNatClampNeg * componentBytes (newarray.typeOf at9) ≤ 536870912 := Nat.le_trans (Nat.mul_le_mul hi2 c5) (by decide)
    refine W.newa M.1 M.2.1 (M.2.2.2.2.2.1 _ hw) rfl dd rfl hi hbytes (by omega) (by omega) fun cA kA comp f1 f2 f3 => ?_
    rw [c4]
    exact n _ _ _ _ _ (hk H.size hR.fresh) p e R s m args below meth c9 Q M F _ locs _ _ ls (hR.new (new_arr hSF c1 c2 c3 f1 f2 f3 (by simp)) (by simp) (fun q hq => by simp [Array.getElem?_push, Nat.ne_of_lt hq])) hl (by omega) (by omega) hL
  · exact hk.elim
theorem s_anew {k : aP} {c ix : Nat} {C : String} (ht : (c = 13 ∧ C = RX0) ∨ (c = 14 ∧ C = "java/lang/Object")) (hw : Cond.classLink (mY mi).cls ix C ∈ aW) (hw2 : Cond.arrayOver (.object C) ∈ lw_tbl) (dd : decode (mB mi) pc = .ok (.anewarray ix, 3)) (n : aSo G mi d mc ms K k (pc + 3)) : aSo G mi d mc ms K (o_newa c .null k) pc := by
  intro kc ks L st h hk p e R s m args below meth c9 Q M F H locs cells slots ls hR hl h1 h2 hL
  have hSF : SF G s := M.2.2.2.2.2.2.2.2.2.1
  have hroom := M.2.2.2.2.2.2.2.2.2.2.1
  unfold o_newa at hk
  split at hk
  · next i r =>
    obtain ⟨hi, hi2, hk1, hk2, hk⟩ := hk
    have hcc : 10 ≤ c ∧ c < 20 ∧ aTy[c - 10]? = some (.object C) := by
      rcases ht with ⟨rfl, rfl⟩ | ⟨rfl, rfl⟩ <;> exact ⟨by decide, by decide, rfl⟩
    obtain ⟨c1, c2, c3⟩ := hcc
    refine W.anew M.1 M.2.1 M.2.2.2.2.1 (M.2.2.2.2.2.1 _ hw) (aNw_use rfl (hSF.2.2.1 _ hw2 rfl)) rfl dd rfl hi (by omega) (by omega) (by omega) fun cA kA comp f1 f2 f3 f4 => ?_
    exact n _ _ _ _ _ (hk H.size hR.fresh) p e R s m args below meth c9 Q M F _ locs _ _ ls (hR.new (new_arr hSF c1 c2 c3 f1 f2 f3 (by simp)) (by simp) (fun q hq => by simp [Array.getElem?_push, Nat.ne_of_lt hq])) hl (by omega) (by omega) hL
  · exact hk.elim
theorem s_anewI {k : aP} {ix : Nat} (hw : Cond.classLink (mY mi).cls ix "[I" ∈ aW) (hw2 : Cond.arrayOver (.array .int) ∈ lw_tbl) (dd : decode (mB mi) pc = .ok (.anewarray ix, 3)) (n : aSo G mi d mc ms K k (pc + 3)) : aSo G mi d mc ms K (o_newa 15 .null k) pc := by
  intro kc ks L st h hk p e R s m args below meth c9 Q M F H locs cells slots ls hR hl h1 h2 hL
  have hSF : SF G s := M.2.2.2.2.2.2.2.2.2.1
  have hroom := M.2.2.2.2.2.2.2.2.2.2.1
  unfold o_newa at hk
  split at hk
  · next i r =>
    obtain ⟨hi, hi2, hk1, hk2, hk⟩ := hk
    refine W.anewA (t := .int) M.1 M.2.1 M.2.2.2.2.1 (M.2.2.2.2.2.1 _ hw) (aNw_use rfl (hSF.2.2.1 _ hw2 rfl)) rfl dd rfl hi (by omega) (by omega) (by omega) fun cA kA comp f1 f2 f3 f4 => ?_
    exact n _ _ _ _ _ (hk H.size hR.fresh) p e R s m args below meth c9 Q M F _ locs _ _ ls (hR.new (new_arr hSF (by decide) (by decide) rfl f1 f2 f3 (by simp)) (by simp) (fun q hq => by simp [Array.getElem?_push, Nat.ne_of_lt hq])) hl (by omega) (by omega) hL
  · exact hk.elim
/-! a cast to the object's own class, or of null -/
def o_cast (ci : Nat) (k : aP) : aP := fun kc ks L st h => match st with
  | .ref a :: r => aKind h a (fun c => c = ci ∧ k kc ks L (.ref a :: r) h)
  | .null :: r => k kc ks L (.null :: r) h
  | _ => False
theorem s_cast {k : aP} {ix : Nat} (ci : Nat) (r9 : vw_C) (hc9 : aCl[ci]? = some r9) (hw : Cond.classLink (mY mi).cls ix r9.1 ∈ aW) (dd : decode (mB mi) pc = .ok (.checkcast ix, 3)) (n : aSo G mi d mc ms K k (pc + 3)) : aSo G mi d mc ms K (o_cast ci k) pc := by
  intro kc ks L st h hk p e R s m args below meth c Q M F H locs cells slots ls hR hl h1 h2 hL
  have hSF : SF G s := M.2.2.2.2.2.2.2.2.2.1
  unfold o_cast at hk
  split at hk
  · next a r =>
    obtain ⟨c9, vs, ha, e9, hk9⟩ := hk.of
    subst e9
    have hat := (hR.2.2 a _ ha).1
    unfold acAt at hat
    have hci : c9 < 10 := by have := (List.getElem?_eq_some_iff.mp hc9).1; simp [aCl] at this; omega
    rw [if_pos hci] at hat
    obtain ⟨r8, e8, e7, cell, q1, q2, q3, q4⟩ := hat
    cases hc9.symm.trans e8
    intro T hT X
    obtain ⟨vm', X', st9⟩ := X.checkcastYes M.1 M.2.2.2.2.1 (M.2.2.2.2.2.1 _ hw) (by rw [hT]; exact q1) (by rw [q3]; rfl) (by rw [q2]; exact (hSF.1.1 c9 _ hc9).2.1) (va_asg _ _) (g := F0 m pc ls (.ref a :: r)) rfl rfl (by rw [M.2.1]; exact dd)
    obtain ⟨t, a1, b1⟩ := n _ _ _ _ _ hk9 p e R s m args below meth c Q M F H locs cells slots ls hR hl h1 h2 hL (T.setVm vm') hT X'
    exact ⟨t, st9 t a1, b1⟩
  · exact lv_castN M.1 M.2.1 dd (n _ _ _ _ _ hk p e R s m args below meth c Q M F H locs cells slots ls hR hl h1 h2 hL)
  · exact hk.elim
/-! the list's own empty array -/
theorem s_gets {k : aP} {ix : Nat} (hw : Cond.fieldLink (mY mi).cls ix "java/util/ArrayList" "DEFAULTCAPACITY_EMPTY_ELEMENTDATA" "[Ljava/lang/Object;" ∈ aW) (dd : decode (mB mi) pc = .ok (.getstatic ix, 3)) (n : aSo G mi d mc ms K k (pc + 3)) : aSo G mi d mc ms K (o_c (.ref (gE G)) k) pc := by
  intro kc ks L st h hk p e R s m args below meth c Q M F H locs cells slots ls hR hl h1 h2 hL
  have hSF : SF G s := M.2.2.2.2.2.2.2.2.2.1
  obtain ⟨cf, kf, fi, f, a, cell, z1, z2, z3, z4, z5, z6, z7, z8⟩ := hSF.2.2.2.2.2.2.2.1
  exact W.gets M.1 M.2.1 M.2.2.2.2.1 (M.2.2.2.2.2.1 _ hw) z1 z2 z3 z4 (by rw [hR.2.1 a (Array.getElem?_eq_some_iff.mp z5).1]; exact z5) (fun e => by rw [e] at z6; cases z6) z7 rfl dd (n _ _ _ _ _ hk p e R s m args below meth c Q M F H locs cells slots ls hR hl h1 h2 hL)
/-! references told apart -/
def o_acmpeq (t k : aP) : aP := fun kc ks L st h => match st with
  | .ref y :: .ref x :: r => (x = y → t kc ks L r h) ∧ (¬ x = y → k kc ks L r h)
  | _ => False
theorem s_acmpeq {t k : aP} (off : Int) (tgt : Nat) (dd : decode (mB mi) pc = .ok (.if_acmp .eq off, 3)) (ht : (pc : Int) + off = (tgt : Int)) (t9 : aSo G mi d mc ms K t tgt) (n : aSo G mi d mc ms K k (pc + 3)) : aSo G mi d mc ms K (o_acmpeq t k) pc := by
  intro kc ks L st h hk p e R s m args below meth c Q M F H locs cells slots ls hR hl h1 h2 hL
  unfold o_acmpeq at hk
  split at hk
  · next y x r => exact lv_acmp_eq (rx := some x) (ry := some y) M.1 M.2.1 dd ht (fun z9 => t9 _ _ _ _ _ (hk.1 (Option.some.inj z9)) p e R s m args below meth c Q M F H locs cells slots ls hR hl h1 h2 hL) (fun z9 => n _ _ _ _ _ (hk.2 (fun w => z9 (congrArg some w))) p e R s m args below meth c Q M F H locs cells slots ls hR hl h1 h2 hL)
  · exact hk.elim
def o_acmpne (t k : aP) : aP := fun kc ks L st h => match st with
  | .ref y :: .ref x :: r => (¬ x = y → t kc ks L r h) ∧ (x = y → k kc ks L r h)
  | _ => False
theorem s_acmpne {t k : aP} (off : Int) (tgt : Nat) (dd : decode (mB mi) pc = .ok (.if_acmp .ne off, 3)) (ht : (pc : Int) + off = (tgt : Int)) (t9 : aSo G mi d mc ms K t tgt) (n : aSo G mi d mc ms K k (pc + 3)) : aSo G mi d mc ms K (o_acmpne t k) pc := by
  intro kc ks L st h hk p e R s m args below meth c Q M F H locs cells slots ls hR hl h1 h2 hL
  unfold o_acmpne at hk
  split at hk
  · next y x r => exact lv_acmp_ne (rx := some x) (ry := some y) M.1 M.2.1 dd ht (fun z9 => t9 _ _ _ _ _ (hk.1 (fun w => z9 (congrArg some w))) p e R s m args below meth c Q M F H locs cells slots ls hR hl h1 h2 hL) (fun z9 => n _ _ _ _ _ (hk.2 (Option.some.inj z9)) p e R s m args below meth c Q M F H locs cells slots ls hR hl h1 h2 hL)
  · exact hk.elim
end Arrays
