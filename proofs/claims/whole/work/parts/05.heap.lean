/-! one lemma an instruction: fields, arrays, new cells -/
section Heap
variable {G : gG} {mi : MI} {d mc ms : Nat} {K : aR → aH → Prop} {pc : Nat}
theorem aCl_in : ∀ (k : Nat) (r : vw_C), aCl[k]? = some r → ∀ w ∈ u_ws r.1 r.2.1 r.2.2, w ∈ aW := by
  have h : ∀ r ∈ aCl, ∀ w ∈ u_ws r.1 r.2.1 r.2.2, w ∈ lw_tbl ∧ goodWord w = true := by decide +kernel
  intro k r hk w hw
  obtain ⟨h1, h2⟩ := h r (List.mem_of_getElem? hk) w hw
  exact List.mem_filter.mpr ⟨h1, h2⟩
theorem aCl_ty : ∀ (k : Nat) (r : vw_C), aCl[k]? = some r → ∃ ty : Nat → FieldType, (∀ j, j < r.2.2 → parseFieldDescriptor (r.2.1 j).2.2.1 = some (ty j)) ∧ ∀ a, a < r.2.2 → ∀ b, b < r.2.2 → a ≠ b → (r.2.1 a).2.1 ≠ (r.2.1 b).2.1 := by
  intro k r hk
  match k, hk with
  | 0, hk => cases hk; exact ⟨tyX2, tyX2_ok, nmX2⟩
  | 1, hk => cases hk; exact ⟨tyX0, tyX0_ok, nmX0⟩
  | 2, hk => cases hk; exact ⟨tyX1, tyX1_ok, nmX1⟩
  | 3, hk => cases hk; exact ⟨tyX3, tyX3_ok, nmX3⟩
  | 4, hk => cases hk; exact ⟨tyJx4a65c, tyJx4a65c_ok, nmJx4a65c⟩
  | k + 5, hk => simp [aCl] at hk
/-- what a read of an object finds -/
def aObj (h : aH) (a ci : Nat) (k : List Value → Prop) : Prop := match h a with
  | some (c, vs) => c = ci ∧ k vs
  | none => False
theorem aObj.of {h : aH} {a ci : Nat} {k : List Value → Prop} (hk : aObj h a ci k) : ∃ vs, h a = some (ci, vs) ∧ k vs := by
  unfold aObj at hk
  split at hk
  · next c vs e => obtain ⟨rfl, hk⟩ := hk; exact ⟨vs, e, hk⟩
  · exact hk.elim
theorem aObj.mk {h : aH} {a ci : Nat} {k : List Value → Prop} {vs : List Value} (e : h a = some (ci, vs)) (hk : k vs) : aObj h a ci k := by
  unfold aObj
  rw [e]
  exact ⟨rfl, hk⟩
def aVal (vs : List Value) (i : Nat) (k : Value → Prop) : Prop := match vs[i]? with
  | some v => k v
  | none => False
theorem aVal.of {vs : List Value} {i : Nat} {k : Value → Prop} (hk : aVal vs i k) : ∃ v, vs[i]? = some v ∧ k v := by
  unfold aVal at hk
  split at hk
  · next v e => exact ⟨v, e, hk⟩
  · exact hk.elim
theorem aVal.mk {vs : List Value} {i : Nat} {k : Value → Prop} {v : Value} (e : vs[i]? = some v) (hk : k v) : aVal vs i k := by
  unfold aVal
  rw [e]
  exact hk
/-! fields -/
def o_get (ci j : Nat) (k : aP) : aP := fun kc ks L st h => match st with
  | .ref a :: r => aObj h a ci (fun vs => aVal vs j (fun v => k kc ks L (v :: r) h))
  | _ => False
theorem s_get {k : aP} {ix : Nat} {ref : String} (ci j : Nat) (r9 : vw_C) (hc9 : aCl[ci]? = some r9) (hj : j < r9.2.2) (hw : Cond.fieldLink (mY mi).cls ix ref (r9.2.1 j).2.1 (r9.2.1 j).2.2.1 ∈ aW) (hs : (r9.2.1 j).1 = ref ∨ Cond.sameField ref (r9.2.1 j).1 (r9.2.1 j).2.1 (r9.2.1 j).2.2.1 ∈ aW) (dd : decode (mB mi) pc = .ok (.getfield ix, 3)) (n : aSo G mi d mc ms K k (pc + 3)) : aSo G mi d mc ms K (o_get ci j k) pc := by
  intro kc ks L st h hk p e R s m args below meth c Q M F H locs cells slots ls hR hl h1 h2 hL
  obtain ⟨hx, hb, hr, hml, hown, hts, hlk, hnm, htb, hSF, hroom, hst, -⟩ := id M
  unfold o_get at hk
  split at hk
  · next a r =>
    obtain ⟨vs, ha, hk⟩ := hk.of
    obtain ⟨v, hv, hk⟩ := hk.of
    have hat := (hR.2.2 a _ ha).1
    unfold acAt at hat
    have hci : ci < 10 := by have := (List.getElem?_eq_some_iff.mp hc9).1; simp [aCl] at this; omega
    rw [if_pos hci] at hat
    obtain ⟨r8, e8, e7, cell, q1, q2, q3, q4⟩ := hat
    cases hc9.symm.trans e8
    obtain ⟨hS, hfc, kC, hkC, hkind⟩ := hSF.1.1 ci _ hc9
    obtain ⟨cf, kf, fi, f, hi, hsl⟩ := hS j hj
    have hi' : s.fieldFound? ref (r9.2.1 j).2.1 (r9.2.1 j).2.2.1 = some (cf, kf, fi, f) := by
      rcases hs with hs | hs
      · rw [← hs]; exact hi
      · exact u_same (hts _ hs) _ hi
    refine W.getf hx hb hown (hts _ hw) hi' (u_facts hfc hkC (u_lays hts (aCl_in ci r9 hc9) hj) hi).1 q1 (by rw [q3]; exact fun h => by cases h) (v := v) ?_ rfl rfl dd (n _ _ _ _ _ hk p e R s m args below meth c Q M F H locs cells slots ls hR hl h1 h2 hL)
    rw [hsl, q4 j hj]
    simp [vp_V, hv]
  · exact hk.elim
/-- a value that fits a field's type -/
def aFit (ty : FieldType) (v : Value) : Prop := narrow ty v = v ∧ fits ty v = true
theorem aFit.i (x : Int32) : aFit .int (.int x) := ⟨rfl, rfl⟩
theorem aFit.l (x : Int64) : aFit .long (.long x) := ⟨rfl, rfl⟩
theorem aFit.r (ty : FieldType) (ht : ty.isReference = true) (a : Nat) : aFit ty (.ref a) := by
  cases ty <;> first | exact ⟨rfl, rfl⟩ | exact Bool.noConfusion ht
theorem aFit.n (ty : FieldType) (ht : ty.isReference = true) : aFit ty .null := by
  cases ty <;> first | exact ⟨rfl, rfl⟩ | exact Bool.noConfusion ht
def aTFit (ty : FieldType) (v : Value) : Prop := match ty, v with
  | .int, .int _ => True
  | .long, .long _ => True
  | .object _, .ref _ => True
  | .array _, .ref _ => True
  | .object _, .null => True
  | .array _, .null => True
  | _, _ => False
theorem aTFit.fit {ty : FieldType} {v : Value} (h : aTFit ty v) : aFit ty v := by
  unfold aTFit at h
  split at h
  · exact aFit.i _
  · exact aFit.l _
  · exact aFit.r _ rfl _
  · exact aFit.r _ rfl _
  · exact aFit.n _ rfl
  · exact aFit.n _ rfl
  · exact h.elim
def o_put (ci j : Nat) (ty : FieldType) (k : aP) : aP := fun kc ks L st h => match st with
  | v :: .ref a :: r => aTFit ty v ∧ aObj h a ci (fun vs => k kc ks L r (aUp h a (ci, vs.set j v)))
  | _ => False
theorem s_put {k : aP} {ix : Nat} {ref : String} (ci j : Nat) (ty : FieldType) (r9 : vw_C) (hc9 : aCl[ci]? = some r9) (hj : j < r9.2.2) (hty : parseFieldDescriptor (r9.2.1 j).2.2.1 = some ty) (hw : Cond.fieldLink (mY mi).cls ix ref (r9.2.1 j).2.1 (r9.2.1 j).2.2.1 ∈ aW) (hs : (r9.2.1 j).1 = ref ∨ Cond.sameField ref (r9.2.1 j).1 (r9.2.1 j).2.1 (r9.2.1 j).2.2.1 ∈ aW) (hf : (r9.2.1 j).2.2.2 = false ∨ ((r9.2.1 j).2.2.2 = true ∧ (mY mi).name = "<init>" ∧ (r9.2.1 j).1 = (mY mi).cls)) (dd : decode (mB mi) pc = .ok (.putfield ix, 3)) (n : aSo G mi d mc ms K k (pc + 3)) : aSo G mi d mc ms K (o_put ci j ty k) pc := by
  intro kc ks L st h hk p e R s m args below meth c Q M F H locs cells slots ls hR hl h1 h2 hL
  obtain ⟨hx, hb, hr, hml, hown, hts, hlk, hnm, htb, hSF, hroom, hst, -⟩ := id M
  unfold o_put at hk
  split at hk
  · next v a r =>
    obtain ⟨hfit, hk⟩ := hk
    obtain ⟨vs, ha, hk⟩ := hk.of
    have hfit := hfit.fit
    have hat := (hR.2.2 a _ ha).1
    unfold acAt at hat
    have hci : ci < 10 := by have := (List.getElem?_eq_some_iff.mp hc9).1; simp [aCl] at this; omega
    rw [if_pos hci] at hat
    obtain ⟨r8, e8, e7, cell, q1, q2, q3, q4⟩ := hat
    cases hc9.symm.trans e8
    obtain ⟨ty0, hty0, hnm0⟩ := aCl_ty ci r9 hc9
    have hap := va_apart (own := (mY mi).cls) hts (aCl_in ci r9 hc9) ty0 hty0 hnm0 hSF.1 hc9
    obtain ⟨hS, hfc, kC, hkC, hkind⟩ := hSF.1.1 ci _ hc9
    obtain ⟨cf, kf, fi, f, hi, hsl⟩ := hS j hj
    have hi' : s.fieldFound? ref (r9.2.1 j).2.1 (r9.2.1 j).2.2.1 = some (cf, kf, fi, f) := by
      rcases hs with hs | hs
      · rw [← hs]; exact hi
      · exact u_same (hts _ hs) _ hi
    have hlay := hts _ (aCl_in ci r9 hc9 _ (u_in_lay hj))
    have hstf := (u_facts hfc hkC (u_lays hts (aCl_in ci r9 hc9) hj) hi).1
    have hbase : (gH G).size ≤ a := (hR.2.2 a _ ha).2 (by show ci < 20; omega)
    have go : ∀ H' : Heap, H'[a]? = some (cell.setSlot ((gD G).2 ci j) v) → H'.size = H.size → (∀ q, q ≠ a → H'[q]? = H[q]?) → W p (gl G) e R s m args below meth c H' (locs ++ [⟨a, f.slot⟩]) cells slots Q (F0 m (pc + 3) ls r) := by
      intro H' e1 e2 e3
      refine n _ _ _ _ _ hk p e R s m args below meth c Q M F H' _ cells slots ls (hR.put ?_ e2 e3 hbase) (fun q hq => ?_) h1 h2 hL
      · show acAt G s H' a (ci, vs.set j v)
        unfold acAt
        rw [if_pos hci]
        refine ⟨_, hc9, by rw [List.length_set]; exact e7, t_OB.to (V := updV (vp_V vs) j v) ⟨_, e1, q2, q3, t_set q4 hap hj v⟩ (fun i _ => vp_updV_set (by show j < vs.length; rw [e7]; exact hj) v i)⟩
      · rcases List.mem_append.mp hq with hq | hq
        · exact hl q hq
        · rw [List.mem_singleton.mp hq]; exact hbase
    unfold u_lay at hlay
    rcases hf with hf | ⟨hf, hini, hdecl⟩
    · rw [if_neg (by rw [hf]; decide)] at hlay
      have h6 := u_store hfc hkC hkind hlay hi hty hfit.1 hfit.2
      refine W.putK hx hb (f := f) ⟨hown, hts _ hw, ⟨_, _, _, hi'⟩, hstf⟩ (by rw [q2]; exact h6) q1 q3 (by rw [hsl]; exact k2_hasslot (q4 j hj)) rfl rfl dd fun H' e1 e2 e3 => ?_
      rw [hsl] at e1
      exact go H' e1 e2 e3
    · rw [if_pos hf] at hlay
      have hcf : m.cls = cf := by
        obtain ⟨_, _, c', _, _, _, -, -, hf', -, -, -, hown2, -⟩ := Cond.laysFinal_spec hlay
        have e1 : c' = cf := by have := hi.symm.trans hf'; simp at this; exact this.1.symm
        rw [hdecl] at hown2
        rw [← e1]; exact Option.some.inj (hown.symm.trans hown2)
      have h6 := u_fits hfc hkC hkind (Or.inr hlay) hi hty hfit.1 hfit.2
      refine W.putFinK hx hb hown (hts _ hw) hi' hstf hcf (hnm.trans hini) (by rw [q2]; exact h6) q1 q3 (by rw [hsl]; exact k2_hasslot (q4 j hj)) rfl rfl dd fun H' e1 e2 e3 => ?_
      rw [hsl] at e1
      exact go H' e1 e2 e3
  · exact hk.elim
/-! a new object -/
def o_new (ci N : Nat) (fs : List Value) (k : aP) : aP := fun kc ks L st h => 1 ≤ kc ∧ N ≤ ks ∧ ∀ q : Nat, h q = none → k (kc - 1) (ks - N) L (.ref q :: st) (aUp h q (ci, fs))
theorem s_new {k : aP} {ix : Nat} (ci N : Nat) (fs : List Value) (r9 : vw_C) (hc9 : aCl[ci]? = some r9) (hN : r9.2.2 = N) (hlen : fs.length = N) (hfs : ∀ j, j < N → (parseFieldDescriptor (r9.2.1 j).2.2.1).map defaultValue = some (vp_V fs j)) (hw : Cond.classLink (mY mi).cls ix r9.1 ∈ aW) (hw2 : Cond.instantiable r9.1 N ∈ aW) (hw3 : Cond.initialized r9.1 ∈ aW) (dd : decode (mB mi) pc = .ok (.new ix, 3)) (n : aSo G mi d mc ms K k (pc + 3)) : aSo G mi d mc ms K (o_new ci N fs k) pc := by
  intro kc ks L st h hk p e R s m args below meth c Q M F H locs cells slots ls hR hl h1 h2 hL
  obtain ⟨hx, hb, hr, hml, hown, hts, hlk, hnm, htb, hSF, hroom, hst, -⟩ := id M
  obtain ⟨hk1, hk2, hk⟩ := hk
  have hKn := hSF.1.1 ci _ hc9
  have hci : ci < 10 := by have := (List.getElem?_eq_some_iff.mp hc9).1; simp [aCl] at this; omega
  obtain ⟨ty0, hty0, hnm0⟩ := aCl_ty ci r9 hc9
  subst hN
  refine W.newcK hx hb hown (hts _ hw) (hts _ hw2) (hts _ hw3) rfl dd (by omega) (by omega) hKn.2.1 rfl fun H1 kC hkC e1 z1 o1 => ?_
  refine n _ _ _ _ _ (hk H.size hR.fresh) p e R s m args below meth c Q M F H1 locs _ _ ls (hR.new ?_ (by omega) o1) hl (by omega) (by omega) hL
  unfold acAt
  rw [if_pos hci]
  refine ⟨_, hc9, hlen, (u_born ty0 hts (aCl_in ci r9 hc9) hKn hkC e1 hty0).to (fun j hj => ?_)⟩
  have := hfs j hj
  rw [hty0 j hj] at this
  exact Option.some.inj this
end Heap
