/-! System.arraycopy within one array of objects; small helpers of the laid rows -/
section Copy
variable {G : gG} {mi : MI} {d mc ms : Nat} {K : aR → aH → Prop} {pc : Nat}
theorem aald_ok : ((.aaload : Instr) = .iaload ∧ ∀ c ∈ [13, 14, 15, 16, 17], aTy[c - 10]? = some .int) ∨ ((.aaload : Instr) = .laload ∧ ∀ c ∈ [13, 14, 15, 16, 17], aTy[c - 10]? = some .long) ∨ ((.aaload : Instr) = .daload ∧ ∀ c ∈ [13, 14, 15, 16, 17], aTy[c - 10]? = some .double) ∨ ((.aaload : Instr) = .aaload ∧ ∀ c ∈ [13, 14, 15, 16, 17], ∃ t, aTy[c - 10]? = some t ∧ t.isReference = true) := by
  refine Or.inr (Or.inr (Or.inr ⟨rfl, fun c hc => ?_⟩))
  simp only [List.mem_cons, List.not_mem_nil, or_false] at hc
  rcases hc with rfl | rfl | rfl | rfl | rfl <;> exact ⟨_, rfl, rfl⟩
theorem sw_all {cs : List (Int32 × aP)} (tgs : List Nat) (h : cs.map (fun q => q.2) = tgs.map (fun t => o_at G mi d mc ms K t)) : ∀ (i : Nat) (q : Int32 × aP) (t : Nat), cs[i]? = some q → tgs[i]? = some t → aSo G mi d mc ms K q.2 t := by
  intro i q t hq ht
  have := congrArg (fun l : List aP => l[i]?) h
  simp only [List.getElem?_map, hq, ht, Option.map_some] at this
  rw [Option.some.inj this]
  exact s_at
/-- n elements from place sp on, laid from place dp on -/
def aCpy (vs : List Value) (sp dp n : Nat) : List Value := (List.range vs.length).map (fun j => if dp ≤ j ∧ j < dp + n then vs.getD (sp + (j - dp)) .null else vs.getD j .null)
def aRefOK (h : aH) (v : Value) : Prop := v = .null ∨ ∃ x : Nat, v = .ref x ∧ aKind h x (fun c => c = 2)
def o_acopy (k : aP) : aP := fun kc ks L st h => match st with
  | .int n :: .int dp :: .ref b :: .int sp :: .ref a :: r => (r.map fun v => v.category).sum ≤ 8 ∧ b = a ∧ aArr h a (fun c vs => c = 14 ∧ (¬ sp < 0 ∧ ¬ dp < 0 ∧ ¬ n < 0) ∧ sp.toNatClampNeg + n.toNatClampNeg ≤ vs.length ∧ dp.toNatClampNeg + n.toNatClampNeg ≤ vs.length ∧ (∀ v ∈ vs, aRefOK h v) ∧ k kc ks L r (aUp h a (14, aCpy vs sp.toNatClampNeg dp.toNatClampNeg n.toNatClampNeg)))
  | _ => False
theorem s_acopy {k : aP} {ix : Nat} (hd1 : 12 ≤ d) (hl9 : Cond.methodLink (mY mi).cls ix arraycopyName ∈ aW) (hn9 : Cond.native arraycopyName ∈ aW) (hs9 : Cond.static arraycopyName ∈ aW) (hi9 : Cond.initialized "java/lang/System" ∈ aW) (dd : decode (mB mi) pc = .ok (.invokestatic ix, 3)) (n9 : aSo G mi d mc ms K k (pc + 3)) : aSo G mi d mc ms K (o_acopy k) pc := by
  intro kc ks L st h hk p e R s m args below meth c Q M F H locs cells slots ls hR hl h1 h2 hL
  obtain ⟨hx, hb, hr, hml, hown, hts, hlk, hnm, htb, hSF, hroom, hst, -⟩ := id M
  unfold o_acopy at hk
  split at hk
  · next n dp b sp a r =>
    obtain ⟨hsum, rfl, hk⟩ := hk
    obtain ⟨c9, vs, ha, hc, rfl, ⟨p1, p2, p3⟩, p4, p5, p6, hk⟩ := hk.of
    obtain ⟨ty, cell, e1, e2, e3, e4, e5, e6⟩ := acR_of (hR.2.2 b _ ha).1 hc
    have e5 := e5.1 (by decide)
    cases (e1.symm.trans (rfl : aTy[14 - 10]? = some (.object "java/lang/Object")))
    obtain ⟨kA, comp, t1, t2, -, t4⟩ := hSF.2.1 4 _ rfl (by decide)
    obtain ⟨e6a, e6b⟩ := e6 (by decide)
    have hkA : s.vm.classes[cell.cls]? = some kA := by rw [e6a]; exact t1
    have nn : ∀ z : Int32, ¬ z < 0 → z.toInt = (z.toNatClampNeg : Int) := by
      intro z hz
      have hz0 : (0 : Int) ≤ z.toInt := by
        have := Int32.not_lt.mp hz
        simpa using Int32.le_iff_toInt_le.mp this
      show z.toInt = ((z.toInt.toNat : Nat) : Int)
      omega
    have hsz := slots_size e5
    have hget : ∀ j : Nat, cell.slots.getD j .null = vs.getD j .null := fun j => by
      rw [Array.getD_eq_getD_getElem?, List.getD_eq_getElem?_getD, ← Array.getElem?_toList, e5]
    intro T hT X
    obtain ⟨vm', X', step⟩ := X.arraycopy hx hown (hts _ hl9) (hts _ hn9) (hts _ hs9) (hts _ hi9) (src := b) (dst := b) (cs := cell) (cd := cell) (srcPos := sp) (destPos := dp) (n := n) (by rw [hT]; exact e2) (by rw [hT]; exact e2)
      (fun _ z => by rw [e6b] at z; cases z) (fun _ z => by rw [e6b] at z; cases z) e4 e4 hkA hkA t2 t2 rfl p1 p2 p3
      (by rw [nn sp p1, nn n p3, hsz]; omega) (by rw [nn dp p2, nn n p3, hsz]; omega)
      (fun vm₁ hal i hi => by
        rw [hget]
        have hlt : sp.toNatClampNeg + i < vs.length := by omega
        have hv9 : aRefOK h (vs.getD (sp.toNatClampNeg + i) .null) := p6 _ (by rw [List.getD_eq_getElem?_getD, List.getElem?_eq_getElem hlt]; exact List.getElem_mem hlt)
        rcases hv9 with hv9 | ⟨x, hv9, hx9⟩
        · rw [hv9]; exact ⟨rfl, trivial⟩
        · rw [hv9]
          obtain ⟨c2, vs2, hv, hc2⟩ := hx9.of
          subst hc2
          obtain ⟨kA', comp', ty', kc', kv', cv, f1, f2, f3, f4, f5, f6, f7, f8, f9, f10, f11⟩ := asg_ok (c := 14) hSF (by decide) (hR.2.2 x _ hv).1
          cases (show kA' = kA from Option.some.inj (f4.symm.trans t1))
          cases f1
          have ecomp : comp' = comp := by
            have := f5.symm.trans t2
            cases this
            rfl
          subst ecomp
          obtain ⟨kC', hkC', -⟩ := hal.2.2 _ _ f10
          obtain ⟨kE', hkE', -⟩ := hal.2.2 _ _ f7
          exact ⟨rfl, cv, (show T.heap[x]? = some cv by rw [hT]; exact f8), f9, ⟨kC', hkC'⟩, ⟨kE', hkE'⟩, (show vm₁.assignable _ _ = true by rw [hal.assignable]; exact f11)⟩)
      (g := F0 m pc ls (.int n :: .int dp :: .ref b :: .int sp :: .ref b :: r)) rfl (by rw [hml]; exact hL.1) rfl (by rw [hb]; exact dd) (by omega) (by
        have e9 : nativeFrameWords "java/lang/System" "arraycopy" 5 ≤ 40 := by decide +kernel
        show 2 * 0 + _ + (_ + 11) ≤ _
        omega)
    have hlt : b < H.size := (Array.getElem?_eq_some_iff.mp e2).1
    obtain ⟨sf1, sf2, sf3, -, -⟩ := Cell.storeRun_facts cell dp.toNatClampNeg (cell.stretch sp.toNatClampNeg n.toNatClampNeg)
    have hstl : (cell.stretch sp.toNatClampNeg n.toNatClampNeg).length = n.toNatClampNeg := by simp [Cell.stretch]
    have hcp : (copied cell cell sp dp n).slots.toList = aCpy vs sp.toNatClampNeg dp.toNatClampNeg n.toNatClampNeg := by
      apply List.ext_getElem?
      intro j
      rw [Array.getElem?_toList, Cell.storeRun_get _ _ _ _ (by rw [hstl, hsz]; exact p5), hstl]
      unfold aCpy
      rw [List.getElem?_map]
      by_cases hj : j < vs.length
      · rw [List.getElem?_range hj]
        simp only [Option.map_some]
        by_cases hin : dp.toNatClampNeg ≤ j ∧ j < dp.toNatClampNeg + n.toNatClampNeg
        · rw [if_pos hin, if_pos hin]
          simp only [Cell.stretch]
          rw [List.getElem?_map, List.getElem?_range (by omega)]
          simp only [Option.map_some]
          rw [hget]
        · rw [if_neg hin, if_neg hin, ← Array.getElem?_toList, e5, List.getD_eq_getElem?_getD, List.getElem?_eq_getElem hj]
          rfl
      · have h9 : (List.range vs.length)[j]? = none := List.getElem?_eq_none (by rw [List.length_range]; omega)
        rw [h9, if_neg (by omega), ← Array.getElem?_toList, e5, List.getElem?_eq_none (by omega)]
        rfl
    have hbase : (gH G).size ≤ b := (hR.2.2 b _ ha).2 (by show (14 : Nat) < 20; decide)
    have hT9 : (T.setVm vm').heap = H := hT
    have hR1 : RelH G s (aUp h b (14, aCpy vs sp.toNatClampNeg dp.toNatClampNeg n.toNatClampNeg)) ((T.setVm vm').setCell b (copied cell cell sp dp n)).heap := by
      refine hR.put (acR_to (by decide) ⟨_, copied cell cell sp dp n, rfl, heapAt_setCell_self _ (by rw [hT9]; exact hlt), ?_, by rw [sf2]; exact e4, ⟨fun _ => hcp, fun z => absurd z (by decide)⟩, fun _ => ⟨by rw [sf1]; exact e6a, by rw [sf2]; exact e6b⟩⟩) (by rw [size_setCell, hT9]) (fun q hq => by rw [heapAt_setCell_ne _ (Ne.symm hq), hT9]) hbase
      exact ⟨(fun z w => by rw [sf2, e6b] at w; cases w), kA, (by rw [sf1]; exact hkA), comp, t2⟩
    obtain ⟨t, a1, b1⟩ := n9 _ _ _ _ _ hk p e R s m args below meth c Q M F _ _ cells slots ls hR1 (fun q hq => (List.mem_append.mp hq).elim (hl q) (fun hq => by obtain ⟨z, -, rfl⟩ := List.mem_map.mp hq; exact hbase)) h1 h2 hL _ rfl X'
    exact ⟨t, step t a1, b1⟩
  · exact hk.elim
end Copy
