/-! the entry of a method; throws; handlers; switches; System.arraycopy -/
section More
variable {G : gG} {mi : MI} {d mc ms : Nat} {K : aR → aH → Prop} {pc : Nat}
def aEnt : Nat → List Value → aL
  | n, [] => List.replicate n none
  | n, v :: vs => if v.category = 2 then some v :: none :: aEnt (n - 2) vs else some v :: aEnt (n - 1) vs
theorem aEnt_in : ∀ (vs : List Value) (n b i : Nat) (v : Value), lg (aEnt n vs) i = some v → (b + i, v) ∈ lv_args b vs
  | [], n, b, i, v, h => by
    exfalso
    have : ∀ (n i : Nat), lg (List.replicate n none) i = none := fun n => by
      induction n with
      | zero => intro i; cases i <;> rfl
      | succ n ih => intro i; cases i with
        | zero => rfl
        | succ i => exact ih i
    unfold aEnt at h
    rw [this] at h
    cases h
  | w :: vs, n, b, i, v, h => by
    unfold aEnt at h
    unfold lv_args
    by_cases hc : w.category = 2
    · rw [if_pos hc] at h ⊢
      match i, h with
      | 0, h => cases h; exact List.mem_cons_self
      | 1, h => cases h
      | i + 2, h =>
        have := aEnt_in vs (n - 2) (b + 2) i v h
        rw [show b + 2 + i = b + (i + 2) by omega] at this
        exact List.mem_cons_of_mem _ this
    · rw [if_neg hc] at h ⊢
      match i, h with
      | 0, h => cases h; exact List.mem_cons_self
      | i + 1, h =>
        have := aEnt_in vs (n - 1) (b + 1) i v h
        rw [show b + 1 + i = b + (i + 1) by omega] at this
        exact List.mem_cons_of_mem _ this
theorem aEnt_lv {vs : List Value} {n : Nat} {L : aL} (hL : aEnt n vs = L) (hlen : L.length = n) (hn : (lg_sl vs).length ≤ n) : lvL ((lg_sl vs ++ List.replicate (n - (lg_sl vs).length) Slot.unset).toArray) n L := by
  have h := lv_entry vs hn
  refine ⟨h.1, h.2.1, hlen, fun i v hv => ?_⟩
  rw [← hL] at hv
  have := aEnt_in vs n 0 i v hv
  rw [Nat.zero_add] at this
  exact h.2.2 (i, v) this
/-- the end of a method of the abstract machine is the contract's end -/
theorem fin_of {p : Program} {e : Env} {R : Room} {s : State} {m : MethodId} {args : Array Value} {below : List Frame} {meth : Method} {c : Code} (M : MC G mi d mc ms p R s m args meth c) : FinM G mi mc ms K p e R s m args below meth c (vx_MQ below (aQ G K) (aX G K) args s mc ms (fun q => (gH G).size ≤ q)) := by
  obtain ⟨hx, hb, hr, hml, hown, hts, hlk, hnm, htb, hSF, hroom, hst, hz0, hz1⟩ := id M
  refine ⟨?_, ?_, fun _ => rfl⟩
  · intro v h H locs cells slots pc ls hK hR hl hc hs ha
    have fin : ∀ t : State, t.heap = H → s.WarmedH t.vm → aQ G K args s (.returned v) t := fun t ht hW => ⟨v, h, rfl, hK, by rw [ht]; exact hR.moved hW.alike (by rw [ht]; exact Nat.le_refl _), by rw [ht]; exact hR.1.2⟩
    refine vx_ret (W.widen hc hs ?_)
    match v, ha, fin with
    | none, ha, fin => exact W.vret hx hb (hr.trans ha.2) fin hl ha.1 hlk
    | some (.int x), ha, fin =>
      obtain ⟨a1, ty, a2, a3⟩ := ha
      exact W.zret hx hb (hr.trans a2) a3 fin hl a1 hlk
    | some (.long x), ha, fin => exact W.lret hx hb (hr.trans ha.2) fin hl ha.1 hlk
    | some (.float x), ha, fin => exact W.fret hx hb (hr.trans ha.2) fin hl ha.1 hlk
    | some (.double x), ha, fin => exact W.dret hx hb (hr.trans ha.2) fin hl ha.1 hlk
    | some .null, ha, fin =>
      obtain ⟨a1, a2, rt, a3, a4⟩ := ha
      exact W.aret hx hb (hr.trans a3) a4 a2 fin hl a1 hlk
    | some (.ref x), ha, fin =>
      obtain ⟨a1, a2, rt, a3, a4⟩ := ha
      exact W.aret hx hb (hr.trans a3) a4 a2 fin hl a1 hlk
    | some (.retAddr x), ha, fin =>
      obtain ⟨a1, a2, rt, a3, a4⟩ := ha
      rcases a2 with a2 | ⟨_, a2⟩ <;> cases a2
  · intro E h H locs cells slots pc ls st q ce hK hR hl hc hs hX hce hcv hcl
    exact vx_out (by intro x hx9; rw [htb, hX] at hx9; cases hx9) hlk hce hcv hcl (fun t ht hal => ⟨h, hK, by rw [ht]; exact hR.moved hal (by rw [ht]; exact Nat.le_refl _), by rw [ht]; exact hR.1.2⟩) hl hc hs
/-- as the kit's vx_ofW, for a method of a class that has natives too -/
theorem ax_ofW {l : Launch} {y : MethodName} {ws ws' : List Cond} {rm : Room} {Pc : Array Value → State → Prop} {Qc : Array Value → State → Outcome → State → Prop} {XC : String → State → State → Prop} {mc ms : Nat} {free : Addr → Prop} {cc : ByteArray} {maxL : Nat} {ret : Option FieldType}
    (hy : plainFor y = true) (hw : ws = Cond.code y cc maxL ret :: ws')
    (body : ∀ p e s m args below meth c s₁, BodyLoose p l y (headSpec ws rm) cc maxL ret e s m args below meth c s₁ → c.maxLocals = maxL → (∀ x ∈ c.exceptionTable.toList, False) → Pc args s →
      W p l e (headSpec ws rm).room s m args below meth c s.heap [] 0 0 (vx_MQ below Qc XC args s mc ms free) (entryFrame m args maxL)) : vx_Met l y ws rm Pc Qc XC mc ms free := by
  refine Jvm.Free.MetFree.of_bodySF (code := cc) (maxLocals := maxL) (ret := ret) hy ?_ ?_
  · intro args s m h hn
    obtain ⟨meth, c, h1, h2, h3, h4, h5, h6, -, -⟩ := Cond.code_spec hn (atoms_spec (ws := ws) h _ (by rw [hw]; exact List.mem_cons_self))
    exact ⟨meth, c, h1, h2, h3, h4, h5, h6⟩
  · intro p e s m args below meth c s₁ B hml hP _
    have hh0 : s₁.heap = s.heap := by rw [B.state]; rfl
    have ht : ∀ x ∈ c.exceptionTable.toList, False := by
      obtain ⟨meth9, c9, h1, h2, -, -, -, -, h7, -⟩ := Cond.code_spec B.named (atoms_spec (ws := ws) B.pre _ (by rw [hw]; exact List.mem_cons_self))
      cases Option.some.inj (h1.symm.trans B.method)
      cases Option.some.inj (h2.symm.trans (Stand.of_body B).code)
      intro x hx
      rw [Array.isEmpty_iff.mp h7] at hx
      cases hx
    obtain ⟨t, a1, o, b1, b2, b3⟩ := body p e s m args below meth c s₁ B hml ht hP s₁ hh0 (Stand.of_body B)
    exact ⟨t, o, a1, b1, b2, b3⟩
theorem ct_of {av : List Value} {h : aH} {L : aL} (hy : plainFor (mY mi) = true) (hX : (mX mi).isEmpty = true) (hst : (gl G).stackTraces = false) (hL : aEnt (mL mi) av = L) (hlen : L.length = mL mi) (hn : (lg_sl av).length ≤ mL mi) (hA : AW G mi d mc ms K mc ms 0 L [] h) : CT G mi d mc ms av h K := by
  refine ax_ofW (cc := mB mi) (maxL := mL mi) (ret := mT mi) hy (by rw [hdW_code hX]) ?_
  intro p e s m args below meth c s₁ B hml ht hv
  obtain ⟨rfl, hSF, hR⟩ := hv
  have hts := atoms_spec (ws := hdW mi :: aW) B.pre
  have htb : c.exceptionTable.toList = tableOf (mX mi) := by
    have h1 : c.exceptionTable.toList = [] := List.eq_nil_iff_forall_not_mem.mpr (fun x hx => ht x hx)
    rw [h1, List.isEmpty_iff.mp hX]
    rfl
  have M : MC G mi d mc ms p (headSpec (hdW mi :: aW) (rmOf d mc ms)).room s m av.toArray meth c := ⟨B.exec, B.bytes, B.returns, hml, findClass_of_methodNamed B.named, fun w hw => hts w (List.mem_cons_of_mem _ hw), B.notSynchronized, (name_of_methodNamed B.named B.method).1, htb, hSF, ⟨Nat.le_refl _, Nat.le_refl _, Nat.le_refl _, Nat.le_refl _⟩, hst, hR.1.1, hR.2.1⟩
  rw [lg_entry_eq]
  exact hA p e _ s m _ below meth c _ M (fin_of M) s.heap [] 0 0 _ hR (fun q hq => nomatch hq) (by omega) (by omega) (aEnt_lv hL hlen hn)
theorem ct_ofX {av : List Value} {h : aH} {L : aL} (hy : plainName (mY mi).cls = true) (hX : (mX mi).isEmpty = false) (hst : (gl G).stackTraces = false) (hL : aEnt (mL mi) av = L) (hlen : L.length = mL mi) (hn : (lg_sl av).length ≤ mL mi) (hA : AW G mi d mc ms K mc ms 0 L [] h) : CT G mi d mc ms av h K := by
  have hh : hdW mi = .codeWith (mY mi) (mB mi) (mL mi) (mT mi) (mX mi) := by unfold hdW; rw [if_neg (by rw [hX]; decide)]
  refine vx_ofWH (cc := mB mi) (maxL := mL mi) (ret := mT mi) (hh := mX mi) hy (by rw [hh]) ?_
  intro p e s m args below meth c s₁ B hml hv
  obtain ⟨rfl, hSF, hR⟩ := hv
  have hts := atoms_spec (ws := hdW mi :: aW) B.pre
  have htb : c.exceptionTable.toList = tableOf (mX mi) := vx_table (x := mY mi) B (by have := hts _ List.mem_cons_self; rw [hh] at this; exact this)
  have M : MC G mi d mc ms p (headSpec (hdW mi :: aW) (rmOf d mc ms)).room s m av.toArray meth c := ⟨B.exec, B.bytes, B.returns, hml, findClass_of_methodNamed B.named, fun w hw => hts w (List.mem_cons_of_mem _ hw), B.notSynchronized, (name_of_methodNamed B.named B.method).1, htb, hSF, ⟨Nat.le_refl _, Nat.le_refl _, Nat.le_refl _, Nat.le_refl _⟩, hst, hR.1.1, hR.2.1⟩
  rw [lg_entry_eq]
  exact hA p e _ s m _ below meth c _ M (fin_of M) s.heap [] 0 0 _ hR (fun q hq => nomatch hq) (by omega) (by omega) (aEnt_lv hL hlen hn)
/-! throw new E("text") -/
def o_throw (E : String) (K : aR → aH → Prop) : aP := fun kc ks _ st h => 1 ≤ kc ∧ 6 ≤ ks ∧ (st.map fun v => v.category).sum ≤ 8 ∧ K (.inr E) h
/-- the words of a throw -/
def thOK (own : String) (ik ic : Nat) (E : String) (names : List String) : Prop := (Bundle.fit E = true ∧ (∀ n ∈ names, Bundle.fit n = true) ∧ names.length ≤ 4) ∧ Cond.classLink own ik E ∈ aW ∧ Cond.initialized E ∈ aW ∧ (∀ w ∈ vx_atS own ic E names, w ∈ lw_tbl ∧ (goodWord w || aNwOK w) = true) ∧ (∀ w ∈ Cond.classLink own ik E :: Cond.initialized E :: vx_atS own ic E names, vx_ot w = true)
theorem s_throw {ik ic : Nat} {E : String} (is : Nat) (text : String) (names : List String) (hT9 : thOK (mY mi).cls ik ic E names) (hs9 : Cond.stringRef (mY mi).cls is text ∈ lw_tbl) (hd : 10 ≤ d) (hx0 : mX mi = []) (d0 : decode (mB mi) pc = .ok (.new ik, 3)) (d3 : decode (mB mi) (pc + 3) = .ok (.dup, 1)) (d4 : decode (mB mi) (pc + 4) = .ok (.ldc is, 2)) (d6 : decode (mB mi) (pc + 6) = .ok (.invokespecial ic, 3)) (d9 : decode (mB mi) (pc + 9) = .ok (.athrow, 1)) : aSo G mi d mc ms K (o_throw E K) pc := by
  intro kc ks L st h hk p e R s m args below meth c Q M F H locs cells slots ls hR hl h1 h2 hL
  obtain ⟨hx, hb, hr, hml, hown, hts, hlk, hnm, htb, hSF, hroom, hst, hz0, hz1⟩ := id M
  obtain ⟨⟨t1, t2, t3⟩, t4, t5, t6, t7⟩ := hT9
  obtain ⟨k1, k2, k3, hk⟩ := hk
  obtain ⟨sa, hsa⟩ := hSF.2.2.2.1 _ _ _ hs9
  have hQ := F.2.2 ⟨E, h, hk⟩
  subst hQ
  have hS : va_S (fun q : Nat => (gH G).size ≤ q) s.heap H locs := ⟨hR.1.2, fun q hq hn => by rw [hR.2.1 q (by omega), hz1 q (by omega)], hl⟩
  have hU := vx_Zq.kept (H1 := s.heap) hSF.2.2.2.2.2.1 (fun a ha _ => hz1 a ha)
  have hN := vx_Zq.kept (H1 := s.heap) hSF.2.2.2.2.2.2.1 (fun a ha _ => hz1 a ha)
  have hat : ∀ w ∈ vx_atS (mY mi).cls ic E names, w.before args s = true := fun w hw => by
    obtain ⟨u1, u2⟩ := t6 w hw
    rcases (Bool.or_eq_true _ _).mp u2 with u2 | u2
    · exact hts w (List.mem_filter.mpr ⟨u1, u2⟩)
    · exact aNw_use u2 (hSF.2.2.1 w u1 u2)
  exact vx_throwS hx hb hst hown t1 t2 (hts _ t4) (hts _ t5) hsa hat t7 hU hN hS (by rw [hml]; exact hL.1) d0 d3 d4 d6 d9 (by intro x hx9; rw [htb, hx0] at hx9; cases hx9) (by omega) (by omega) (by omega) (by omega) hlk
    (fun t hal hsz hq => ⟨h, hk, (hR.more hsz hq).moved hal (Nat.le_refl _), Nat.le_trans hR.1.2 hsz⟩) hl (by omega) (by omega)
theorem s_throwW {ik ic : Nat} {E : String} (is : Nat) (text : String) (names : List String) (hT9 : thOK (mY mi).cls ik ic E names) (hs9 : Cond.stringRef (mY mi).cls is text ∈ lw_tbl) (hd : 10 ≤ d) (hx0 : mX mi = []) (d0 : decode (mB mi) pc = .ok (.new ik, 3)) (d3 : decode (mB mi) (pc + 3) = .ok (.dup, 1)) (d4 : decode (mB mi) (pc + 4) = .ok (.ldc_w is, 3)) (d7 : decode (mB mi) (pc + 7) = .ok (.invokespecial ic, 3)) (d10 : decode (mB mi) (pc + 10) = .ok (.athrow, 1)) : aSo G mi d mc ms K (o_throw E K) pc := by
  intro kc ks L st h hk p e R s m args below meth c Q M F H locs cells slots ls hR hl h1 h2 hL
  obtain ⟨hx, hb, hr, hml, hown, hts, hlk, hnm, htb, hSF, hroom, hst, hz0, hz1⟩ := id M
  obtain ⟨⟨t1, t2, t3⟩, t4, t5, t6, t7⟩ := hT9
  obtain ⟨k1, k2, k3, hk⟩ := hk
  obtain ⟨sa, hsa⟩ := hSF.2.2.2.1 _ _ _ hs9
  have hQ := F.2.2 ⟨E, h, hk⟩
  subst hQ
  have hS : va_S (fun q : Nat => (gH G).size ≤ q) s.heap H locs := ⟨hR.1.2, fun q hq hn => by rw [hR.2.1 q (by omega), hz1 q (by omega)], hl⟩
  have hU := vx_Zq.kept (H1 := s.heap) hSF.2.2.2.2.2.1 (fun a ha _ => hz1 a ha)
  have hN := vx_Zq.kept (H1 := s.heap) hSF.2.2.2.2.2.2.1 (fun a ha _ => hz1 a ha)
  have hat : ∀ w ∈ vx_atS (mY mi).cls ic E names, w.before args s = true := fun w hw => by
    obtain ⟨u1, u2⟩ := t6 w hw
    rcases (Bool.or_eq_true _ _).mp u2 with u2 | u2
    · exact hts w (List.mem_filter.mpr ⟨u1, u2⟩)
    · exact aNw_use u2 (hSF.2.2.1 w u1 u2)
  exact vx_throwSW hx hb hst hown t1 t2 (hts _ t4) (hts _ t5) hsa hat t7 hU hN hS (by rw [hml]; exact hL.1) d0 d3 d4 d7 d10 (by intro x hx9; rw [htb, hx0] at hx9; cases hx9) (by omega) (by omega) (by omega) (by omega) hlk
    (fun t hal hsz hq => ⟨h, hk, (hR.more hsz hq).moved hal (Nat.le_refl _), Nat.le_trans hR.1.2 hsz⟩) hl (by omega) (by omega)
/-! a call under handlers -/
def aHnd : List (String × aP) → String → (aP → Prop) → Prop
  | [], _, _ => False
  | (nm, t) :: hs, E, k => (E = nm ∧ k t) ∨ ((E, nm) ∈ aNc ∧ aHnd hs E k)
def hOK (G : gG) (mi : MI) (d mc ms : Nat) (K : aR → aH → Prop) (pc : Nat) : List (Nat × Nat × Nat × Nat) → List (String × aP) → Prop
  | [], [] => True
  | z :: zs, (nm, t) :: hs => (covers ⟨z.1, z.2.1, z.2.2.1, z.2.2.2⟩ pc = true ∧ z.2.2.2 ≠ 0 ∧ Cond.classLink (mY mi).cls z.2.2.2 nm ∈ aW ∧ Cond.castable nm nm ∈ lw_tbl ∧ aSo G mi d mc ms K t z.2.2.1) ∧ hOK G mi d mc ms K pc zs hs
  | _, _ => False
theorem hnd_W {p : Program} {e : Env} {R : Room} {s : State} {m : MethodId} {args : Array Value} {below : List Frame} {meth : Method} {c : Code} {Q : State → Prop} (M : MC G mi d mc ms p R s m args meth c) (F : FinM G mi mc ms K p e R s m args below meth c Q) {H : Heap} {locs : List Loc} {cells slots kc ks : Nat} {ls : Array Slot} {L : aL} {h : aH} {st : List Value} {E : String} {q : Nat} {ce : Cell} (hR : RelH G s h H) (hl : ∀ q ∈ locs, (gH G).size ≤ q.base) (h1 : cells + kc ≤ mc) (h2 : slots + ks ≤ ms) (hL : lvL ls (mL mi) L) (g1 : H[q]? = some ce) (g2 : ce.vm = .none) (g3 : s.vm.findClass E = some ce.cls) :
    ∀ (zs : List (Nat × Nat × Nat × Nat)) (hs : List (String × aP)) (pre : List ExceptionTableEntry), c.exceptionTable.toList = pre ++ tableOf zs → (∀ z ∈ pre, covers z pc = false ∨ (z.catchType ≠ 0 ∧ ∃ nm : String, (Cond.classLink (mY mi).cls z.catchType nm).before args s = true ∧ va_Nc E nm s)) → hOK G mi d mc ms K pc zs hs → aHnd hs E (fun t => ∀ q : Nat, t kc ks L [.ref q] h) → vx_W p (gl G) e R s m args below meth c H locs cells slots Q (F0 m pc ls st) q
  | [], [], _, _, _, _, hk => hk.elim
  | [], _ :: _, _, _, _, ho, _ => ho.elim
  | _ :: _, [], _, _, _, _, hk => hk.elim
  | z :: zs, (nm, t) :: hs, pre, htab, hpre, ho, hk => by
    obtain ⟨⟨o1, o2, o3, o4, o5⟩, ho⟩ := ho
    have hts := M.2.2.2.2.2.1
    have hSF : SF G s := M.2.2.2.2.2.2.2.2.2.1
    rcases hk with ⟨rfl, hk⟩ | ⟨hnc, hk⟩
    · exact vx_catch M.2.2.2.2.1 pre _ (tableOf zs) htab hpre o1 o2 (hts _ o3) (aNw_use rfl (hSF.2.2.1 _ o4 rfl)) g1 g2 g3 (o5 _ _ _ _ _ (hk q) p e R s m args below meth c Q M F H locs cells slots ls hR hl h1 h2 hL)
    · exact hnd_W M F hR hl h1 h2 hL g1 g2 g3 zs hs (pre ++ [⟨z.1, z.2.1, z.2.2.1, z.2.2.2⟩]) (by rw [htab, List.append_assoc]; rfl) (fun x hx => (List.mem_append.mp hx).elim (hpre x) (fun hx => by rw [List.mem_singleton.mp hx]; exact Or.inr ⟨o2, nm, hts _ o3, hSF.2.2.2.2.1 _ hnc⟩)) ho hk
def o_callh (G : gG) (d : Nat) (mi' : MI) (ci n : Nat) (hs : List (String × aP)) (k : aP) : aP := fun kc ks L st h => match aPop n st [] with
  | some (av, .ref b :: r) => (r.map fun v => v.category).sum ≤ 8 ∧ aKind h b (fun c => c = ci) ∧ aCt G mi' d kc ks (.ref b :: av) h (fun kc ks res h' => match res with | .inl v => k kc ks L (v.toList ++ r) h' | .inr E => aHnd hs E (fun t => ∀ q : Nat, t kc ks L [.ref q] h'))
  | _ => False
theorem s_callh {k : aP} {ix n : Nat} {hs : List (String × aP)} (ci : Nat) (r9 : vw_C) (hc9 : aCl[ci]? = some r9) (mi' : MI) (hcl : (mY mi').cls = r9.1) (hm : mOK mi' n) (hd1 : 1 ≤ d) (hh : hOK G mi d mc ms K pc (mX mi) hs) (hl9 : Cond.methodLink (mY mi).cls ix (mY mi') ∈ aW) (hi9 : Cond.instanceMethod (mY mi') ∈ aW) (hs9 : Cond.selects r9.1 (mY mi') (mY mi') ∈ aW) (dd : decode (mB mi) pc = .ok (.invokevirtual ix, 3)) (n9 : aSo G mi d mc ms K k (pc + 3)) : aSo G mi d mc ms K (o_callh G d mi' ci n hs k) pc := by
  intro kc ks L st h hk p e R s m args below meth c Q M F H locs cells slots ls hR hl h1 h2 hL
  obtain ⟨hx, hb, hr, hml, hown, hts, hlk, hnm, htb, hSF, hroom, hst, -⟩ := id M
  obtain ⟨m1, m2, m3, m4, m5, m6, m7⟩ := hm
  unfold o_callh at hk
  split at hk
  · next av b r ep =>
    obtain ⟨hsum, hkind, mc', ms', K1, hc1, hc2, hct, hk⟩ := hk
    obtain ⟨pre, q1, q2, q3⟩ := aPop_eq _ _ _ _ _ ep
    rw [List.append_nil] at q3
    subst q3
    have hcw : CallW R s args (mY mi).cls r9.1 ix (mY mi') (mB mi') (mL mi') (mT mi') (hdW mi' :: aW) (rmOf (d - 1) mc' ms') mc' ms' n :=
      ⟨callB_of n hts (aW_callee m1) (by rw [hdW_code m2]) rfl rfl (hts _ m7) (hts _ hl9) ⟨m3, m4, m5⟩ (room9 hd1 ⟨hroom.1, hroom.2.1⟩ m6 rfl), hts _ hi9, hts _ hs9⟩
    refine aRun_W hR hl (vx_runV (As := av) (rest := r) ⟨hx, hb, hml, hown, hts⟩ hct hcw ⟨aPc_blind, aRecv_of r9 hc9 hSF hR hkind, fun U hU hW => ⟨rfl, hSF.warm hW, by rw [hU]; exact hR.moved hW.alike (by rw [hU]; exact Nat.le_refl _)⟩⟩ rfl q2 hL.1 q1 (lv_room hsum) dd ⟨by omega, by omega⟩) ?_ ?_
    · intro v h' H1 locs1 hK1 hR1 hl1
      exact n9 _ _ _ _ _ (hk _ _ hK1) p e R s m args below meth c Q M F H1 locs1 _ _ ls hR1 hl1 (by omega) (by omega) hL
    · intro E h' H1 locs1 q ce hK1 hR1 hl1 g1 g2 g3
      exact hnd_W M F hR1 hl1 (kc := kc - mc') (ks := ks - ms') (by omega) (by omega) hL g1 g2 g3 (mX mi) hs [] htb (fun z hz => nomatch hz) hh (hk _ _ hK1)
  · exact hk.elim
/-- a call of a static method that has handlers of its own -/
def mOKX (mi' : MI) (n : Nat) : Prop := hdW mi' ∈ aW ∧ (mX mi').isEmpty = false ∧ (mY mi').cls ≠ "java/lang/invoke/MethodHandle" ∧ (mY mi').cls ≠ "java/lang/invoke/VarHandle" ∧ (parseMethodDescriptor (mY mi').desc).map (fun d => d.parameters.length) = some n ∧ mL mi' ≤ 29 ∧ Cond.initialized (mY mi').cls ∈ aW
theorem s_callsX {k : aP} {ix n : Nat} (mi' : MI) (hm : mOKX mi' n) (hd1 : 1 ≤ d) (hx0 : mX mi = []) (hl9 : Cond.methodLink (mY mi).cls ix (mY mi') ∈ aW) (hs9 : Cond.static (mY mi') ∈ aW) (dd : decode (mB mi) pc = .ok (.invokestatic ix, 3)) (n9 : aSo G mi d mc ms K k (pc + 3)) : aSo G mi d mc ms K (o_calls G d mi' n K k) pc := by
  intro kc ks L st h hk p e R s m args below meth c Q M F H locs cells slots ls hR hl h1 h2 hL
  obtain ⟨hx, hb, hr, hml, hown, hts, hlk, hnm, htb, hSF, hroom, hst, -⟩ := id M
  obtain ⟨m1, m2, m3, m4, m5, m6, m7⟩ := hm
  have hh : hdW mi' = .codeWith (mY mi') (mB mi') (mL mi') (mT mi') (mX mi') := by unfold hdW; rw [if_neg (by rw [m2]; decide)]
  unfold o_calls at hk
  split at hk
  · next av r ep =>
    obtain ⟨hsum, mc', ms', K1, hc1, hc2, hct, hk⟩ := hk
    obtain ⟨pre, q1, q2, q3⟩ := aPop_eq _ _ _ _ _ ep
    rw [List.append_nil] at q3
    subst q3
    have hG : GoodIn aW (va_wsS (mY mi).cls ix (mY mi') (hdW mi' :: aW)) := fun w hw => by
      unfold va_wsS at hw
      rcases List.mem_append.mp hw with hw | hw
      · simp only [List.mem_cons, List.not_mem_nil, or_false] at hw
        rcases hw with rfl | rfl | rfl
        · exact aW_good _ hl9
        · exact aW_good _ hs9
        · exact aW_good _ m7
      · exact aW_callee m1 w hw
    have hcw : vx_CSW R s args (mY mi).cls ix (mY mi') (mB mi') (mL mi') (mT mi') (mX mi') (hdW mi' :: aW) (rmOf (d - 1) mc' ms') mc' ms' n :=
      vx_cwSW n hts hG (by rw [hh]) rfl rfl ⟨m3, m4, m5⟩ (room9 hd1 ⟨hroom.1, hroom.2.1⟩ m6 rfl)
    refine aRun_W hR hl (vx_runSX (As := av) (rest := r) ⟨hx, hb, hml, hown, hts⟩ hct hcw ⟨aPc_blind, fun U hU hW => ⟨rfl, hSF.warm hW, by rw [hU]; exact hR.moved hW.alike (by rw [hU]; exact Nat.le_refl _)⟩⟩ rfl q2 hL.1 q1 (lv_room hsum) dd ⟨by omega, by omega⟩) ?_ ?_
    · intro v h' H1 locs1 hK1 hR1 hl1
      exact n9 _ _ _ _ _ (hk _ _ hK1) p e R s m args below meth c Q M F H1 locs1 _ _ ls hR1 hl1 (by omega) (by omega) hL
    · intro E h' H1 locs1 q ce hK1 hR1 hl1 g1 g2 g3
      exact F.2.1 E h' H1 locs1 _ _ pc ls r q ce (hk _ _ hK1) hR1 hl1 (by omega) (by omega) hx0 g1 g2 g3
  · exact hk.elim
/-! switches -/
def o_sw : List (Int32 × aP) → aP → aP
  | [], dk => fun kc ks L st h => match st with
    | .int _ :: r => dk kc ks L r h
    | _ => False
  | (v, t) :: cs, dk => fun kc ks L st h => match st with
    | .int x :: r => (x = v → t kc ks L r h) ∧ (¬ x = v → o_sw cs dk kc ks L (.int x :: r) h)
    | _ => False
theorem o_sw_get {kc ks : Nat} {L : aL} {h : aH} {r : List Value} {dk : aP} : ∀ (cs : List (Int32 × aP)) {x : Int32}, o_sw cs dk kc ks L (.int x :: r) h → (∃ (i : Nat) (q : Int32 × aP), cs[i]? = some q ∧ x = q.1 ∧ (∀ j, j < i → ∀ q', cs[j]? = some q' → x ≠ q'.1) ∧ q.2 kc ks L r h) ∨ ((∀ q ∈ cs, x ≠ q.1) ∧ dk kc ks L r h)
  | [], x, hk => Or.inr ⟨(fun _ hq => nomatch hq), hk⟩
  | (v, t) :: cs, x, hk => by
    by_cases e : x = v
    · exact Or.inl ⟨0, (v, t), rfl, e, fun j hj => absurd hj (Nat.not_lt_zero j), hk.1 e⟩
    · rcases o_sw_get cs (hk.2 e) with ⟨i, q, a1, a2, a3, a4⟩ | ⟨a1, a2⟩
      · refine Or.inl ⟨i + 1, q, a1, a2, fun j hj q' hq' => ?_, a4⟩
        cases j with
        | zero => cases hq'; exact e
        | succ j => exact a3 j (by omega) q' hq'
      · exact Or.inr ⟨fun q hq => (List.mem_cons.mp hq).elim (fun z => by rw [z]; exact e) (a1 q), a2⟩
theorem s_tsw {cs : List (Int32 × aP)} {dk : aP} (dflt hi : Int) (offs : Array Int) (len : Nat) (dt : Nat) (tgs : List Nat) (dd : decode (mB mi) pc = .ok (.tableswitch dflt 0 hi offs, len)) (N9 : Nat) (vs9 : List Int32) (hN1 : cs.length = N9) (hN2 : offs.size = N9) (hN3 : hi = (N9 : Int) - 1 ∧ N9 < 2 ^ 31) (hv1 : cs.map (fun q => q.1) = vs9) (hv2 : (List.range N9).map nI = vs9) (ht : offs.toList.map (fun o => (pc : Int) + o) = tgs.map (fun t : Nat => (t : Int))) (hdt : (pc : Int) + dflt = (dt : Int)) (hall : ∀ (i : Nat) (q : Int32 × aP) (t : Nat), cs[i]? = some q → tgs[i]? = some t → aSo G mi d mc ms K q.2 t) (n : aSo G mi d mc ms K dk dt) : aSo G mi d mc ms K (o_sw cs dk) pc := by
  intro kc ks L st h hk p e R s m args below meth c Q M F H locs cells slots ls hR hl h1 h2 hL
  have hn1 : hi = (offs.size : Int) - 1 := by rw [hN2]; exact hN3.1
  have hn2 : offs.size = cs.length := hN2.trans hN1.symm
  have hn3 : cs.length < 2 ^ 31 := by rw [hN1]; exact hN3.2
  have hv : cs.map (fun q => q.1) = (List.range cs.length).map nI := by rw [hN1, hv2]; exact hv1
  have hst : ∃ x r, st = .int x :: r := by
    cases cs with
    | nil => unfold o_sw at hk; split at hk; exact ⟨_, _, rfl⟩; exact hk.elim
    | cons q cs => obtain ⟨v, t⟩ := q; unfold o_sw at hk; split at hk; exact ⟨_, _, rfl⟩; exact hk.elim
  obtain ⟨x, r, rfl⟩ := hst
  have hval : ∀ (i : Nat) (q : Int32 × aP), cs[i]? = some q → q.1 = nI i := fun i q hq => by
    have hlt : i < cs.length := (List.getElem?_eq_some_iff.mp hq).1
    have := congrArg (fun l : List Int32 => l[i]?) hv
    simp only [List.getElem?_map, hq, List.getElem?_range hlt, Option.map_some] at this
    exact Option.some.inj this
  rcases o_sw_get cs hk with ⟨i, q, a1, a2, a3, a4⟩ | ⟨a1, a2⟩
  · have hlt : i < cs.length := (List.getElem?_eq_some_iff.mp a1).1
    have hx : x = nI i := a2.trans (hval i q a1)
    have hxi : x.toInt = (i : Int) := by rw [hx]; exact nI_toInt (by omega)
    have hoi : ∃ off : Int, offs[i]? = some off := ⟨_, Array.getElem?_eq_getElem (by omega)⟩
    obtain ⟨off, hoff⟩ := hoi
    have h9 := congrArg (fun l : List Int => l[i]?) ht
    simp only [List.getElem?_map, Array.getElem?_toList, hoff, Option.map_some] at h9
    cases htg : tgs[i]? with
    | none => rw [htg] at h9; cases h9
    | some t =>
      rw [htg] at h9
      exact lv_tableIn M.1 M.2.1 dd (by rw [hxi]; omega) (by rw [hxi, hn1]; omega) (by rw [hxi, Int.sub_zero]; exact hoff) (Option.some.inj h9) (hall i q t a1 htg _ _ _ _ _ a4 p e R s m args below meth c Q M F H locs cells slots ls hR hl h1 h2 hL)
  · refine lv_tableOut M.1 M.2.1 dd ?_ hdt (n _ _ _ _ _ a2 p e R s m args below meth c Q M F H locs cells slots ls hR hl h1 h2 hL)
    rcases Int.lt_or_le x.toInt 0 with g | g
    · exact Or.inl g
    · refine Or.inr (Classical.byContradiction fun g2 => ?_)
      have hlt : x.toInt.toNat < cs.length := by omega
      have hq := List.getElem?_eq_getElem hlt
      refine a1 _ (List.mem_of_getElem? hq) ?_
      rw [hval _ _ hq]
      refine Int32.toInt_inj.mp ?_
      rw [nI_toInt (by omega)]
      omega
theorem s_lsw2 {t1 t2 dk : aP} (v1 v2 dflt o1 o2 : Int) {w1 w2 : Int32} (len : Nat) (g1 g2 dt : Nat) (dd : decode (mB mi) pc = .ok (.lookupswitch dflt #[(v1, o1), (v2, o2)], len)) (hv : v1 < v2 ∧ w1.toInt = v1 ∧ w2.toInt = v2) (ht1 : (pc : Int) + o1 = (g1 : Int)) (ht2 : (pc : Int) + o2 = (g2 : Int)) (hdt : (pc : Int) + dflt = (dt : Int)) (n1 : aSo G mi d mc ms K t1 g1) (n2 : aSo G mi d mc ms K t2 g2) (n : aSo G mi d mc ms K dk dt) : aSo G mi d mc ms K (o_sw [(w1, t1), (w2, t2)] dk) pc := by
  intro kc ks L st h hk p e R s m args below meth c Q M F H locs cells slots ls hR hl h1 h2 hL
  have hst : ∃ x r, st = .int x :: r := by unfold o_sw at hk; split at hk; exact ⟨_, _, rfl⟩; exact hk.elim
  obtain ⟨x, r, rfl⟩ := hst
  obtain ⟨hv1, hv2, hv3⟩ := hv
  have hsort : ((#[(v1, o1), (v2, o2)] : Array (Int × Int)).toList.zip ((#[(v1, o1), (v2, o2)] : Array (Int × Int)).toList.drop 1)).all (fun (a, next) => a.1 < next.1) = true := by simpa using hv1
  rcases o_sw_get _ hk with ⟨i, q, a1, a2, a3, a4⟩ | ⟨a1, a2⟩
  · match i, a1 with
    | 0, a1 =>
      cases a1
      exact lv_lookup M.1 M.2.1 dd hsort (by rw [a2]; simp [Op.lookupswitch.offset, hv2]) ht1 (n1 _ _ _ _ _ a4 p e R s m args below meth c Q M F H locs cells slots ls hR hl h1 h2 hL)
    | 1, a1 =>
      cases a1
      exact lv_lookup M.1 M.2.1 dd hsort (by rw [a2]; simp only [hv3]; simp [Op.lookupswitch.offset, show ¬ v1 = v2 by omega]) ht2 (n2 _ _ _ _ _ a4 p e R s m args below meth c Q M F H locs cells slots ls hR hl h1 h2 hL)
    | i + 2, a1 => cases a1
  · have e1 : ¬ v1 = x.toInt := fun z => a1 _ List.mem_cons_self (Int32.toInt_inj.mp (by rw [hv2, z]))
    have e2 : ¬ v2 = x.toInt := fun z => a1 _ (List.mem_cons_of_mem _ List.mem_cons_self) (Int32.toInt_inj.mp (by rw [hv3, z]))
    exact lv_lookup M.1 M.2.1 dd hsort (by simp [Op.lookupswitch.offset, e1, e2]) hdt (n _ _ _ _ _ a2 p e R s m args below meth c Q M F H locs cells slots ls hR hl h1 h2 hL)
end More
